/-! promise 5: line -/
def gp_lf (x : List Nat) : Nat → Nat → Option Nat
  | 0, _ => none
  | n + 1, p => if 24 ≤ p ∨ ¬ (97 ≤ x.getD p 0 ∧ x.getD p 0 ≤ 104) then some p else gp_lf x n (p + 1)
def gp_lm (x : List Nat) (p : Nat) : List Nat := (x.take p).map (fun c => c - 97)
theorem gp_lf_some {x : List Nat} : ∀ (d p q : Nat), gp_lf x d p = some q → p ≤ q ∧ q < p + d ∧ (q ≤ 24 ∨ q = p)
  | 0, p, q, h => by cases h
  | d + 1, p, q, h => by
    rw [gp_lf] at h
    split at h
    · cases h
      exact ⟨by omega, by omega, Or.inr rfl⟩
    · rename_i hc
      obtain ⟨a1, a2, a3⟩ := gp_lf_some d (p + 1) q h
      refine ⟨by omega, by omega, ?_⟩
      rcases a3 with a3 | a3
      · exact Or.inl a3
      · left
        omega
theorem gp_lf_none {x : List Nat} : ∀ (d p : Nat), gp_lf x d p = none → ∀ i, p ≤ i → i < p + d → i < 24 ∧ 97 ≤ x.getD i 0 ∧ x.getD i 0 ≤ 104
  | 0, p, h, i, h1, h2 => by omega
  | d + 1, p, h, i, h1, h2 => by
    rw [gp_lf] at h
    split at h
    · cases h
    · rename_i hc
      by_cases e : i = p
      · rw [e]
        have h24 : ¬ 24 ≤ p := fun g => hc (Or.inl g)
        have hs : 97 ≤ x.getD p 0 ∧ x.getD p 0 ≤ 104 := Classical.byContradiction fun g => hc (Or.inr g)
        exact ⟨by omega, hs⟩
      · exact gp_lf_none d (p + 1) h i (by omega) (by omega)
theorem gp_lm_len {x : List Nat} {p : Nat} (h : p ≤ x.length) : (gp_lm x p).length = p := by unfold gp_lm; simp; omega
theorem gp_lm_s {x : List Nat} {p : Nat} (h : p < x.length) : gp_lm x (p + 1) = gp_lm x p ++ [x.getD p 0 - 97] := by
  unfold gp_lm
  rw [gp_take (d := 0) h, List.map_append]
  rfl
theorem gp_ins_end (l : List Nat) (s : Nat) : gp_ins l l.length s = l ++ [s] := by unfold gp_ins; simp
theorem gp_lm_D {x : List Nat} {p i : Nat} (h : p ≤ x.length) (hi : i < p) : (gp_lm x p).getD i 0 = x.getD i 0 - 97 := by
  unfold gp_lm
  have h1 : i < x.length := by omega
  simp [List.getD, List.getElem?_take, hi, h1]
section
variable {B : Prop} {pf pf' : Nat → Bool} {M M' Mc Mr Mc' Mr' C R : gz_M} {cu cu' o o' : Nat} {x x' t l l' : List Nat} {b u : gp_Bk} {us us' : List gp_Bk} {ks ks' : Nat → Option gp_Bk} {k : Nat}
theorem gp_isS {c : Nat} (hc : c < 256) (M : gz_M) : f3_isSign (nI c) M = some ((if 97 ≤ c ∧ c ≤ 104 then 1 else 0), M) := by
  unfold f3_isSign
  by_cases h1 : c < 97
  · rw [if_pos (show nI c < (97 : Int32) from nI_lt (b := 97) h1 (by omega)), if_neg (by omega)]
  · rw [if_neg (show ¬ nI c < (97 : Int32) from nI_nlt (b := 97) (by omega) (by omega))]
    by_cases h2 : 104 < c
    · rw [if_pos (show (104 : Int32) < nI c from nI_lt (a := 104) h2 (by omega)), if_neg (by omega)]
    · rw [if_neg (show ¬ (104 : Int32) < nI c from nI_nlt (a := 104) (b := c) (by omega) (by omega)), if_pos (by omega)]
theorem gp_lfC (h : gp_xC M x) : f3_faultOfLine M = some (gp_ans1 (gp_lf x x.length 0), M) := by
  have h80 := h.1
  have main : ∀ d p n, p + d = x.length → d < n → f3_faultOfLine_2 n (nI p) M = some (gp_ans1 (gp_lf x d p), M) := by
    intro d
    induction d with
    | zero =>
      intro p n hp hn
      obtain ⟨n, rfl⟩ : ∃ q, n = q + 1 := ⟨n - 1, by omega⟩
      rw [f3_faultOfLine_2, h.2.1, if_pos (nI_le (by omega) (by omega))]
      rfl
    | succ d ih =>
      intro p n hp hn
      obtain ⟨n, rfl⟩ : ∃ q, n = q + 1 := ⟨n - 1, by omega⟩
      rw [f3_faultOfLine_2, h.2.1, if_neg (nI_ge (by omega) (by omega)), gp_lf]
      by_cases h24 : 24 ≤ p
      · rw [if_pos (show (24 : Int32) ≤ nI p from nI_le (a := 24) h24 (by omega)), if_pos (Or.inl h24)]
        rfl
      · rw [if_neg (show ¬ (24 : Int32) ≤ nI p from nI_ge (b := 24) (by omega) (by omega)), gp_xget h (by omega), gp_eB2, gp_isS (h.2.2 p (by omega)).2, gp_eB2]
        by_cases hs : 97 ≤ x.getD p 0 ∧ x.getD p 0 ≤ 104
        · rw [if_neg (show ¬ (if 97 ≤ x.getD p 0 ∧ x.getD p 0 ≤ 104 then (1 : Int32) else 0) = 0 from by rw [if_pos hs]; decide), gp_eL, nI_1, if_neg (show ¬ (24 ≤ p ∨ ¬ (97 ≤ x.getD p 0 ∧ x.getD p 0 ≤ 104)) from fun g => g.elim h24 (fun g => g hs))]
          exact ih (p + 1) n (by omega) (by omega)
        · rw [if_pos (show (if 97 ≤ x.getD p 0 ∧ x.getD p 0 ≤ 104 then (1 : Int32) else 0) = 0 from if_neg hs), if_pos (Or.inr hs)]
          rfl
  unfold f3_faultOfLine
  exact main x.length 0 gz_FU (by omega) (by unfold gz_FU; omega)
theorem gp_takeC (hk : 2 < k) (h : gp_xC M x) (hf : gp_lf x x.length 0 = none) : ∃ M', f5_take k M = some M' ∧ gp_lL k M M' ∧ gp_lC k M' (gp_lm x x.length) := by
  have h80 := h.1
  have hs := gp_lf_none x.length 0 hf
  have main : ∀ d p n (N : gz_M), p + d = x.length → d < n → gp_lL k M N → gp_lC k N (gp_lm x p) → ∃ M', f5_take_7 k n (nI p) N = some M' ∧ gp_lL k M M' ∧ gp_lC k M' (gp_lm x x.length) := by
    intro d
    induction d with
    | zero =>
      intro p n N hp hn hL hC
      obtain ⟨n, rfl⟩ : ∃ q, n = q + 1 := ⟨n - 1, by omega⟩
      have hx : gp_xC N x := h.fr (hL.2 1 (by omega) (by omega)) (hL.2 2 (by omega) (by omega))
      have : p = x.length := by omega
      rw [f5_take_7, hx.2.1, if_pos (nI_le (by omega) (by omega))]
      rw [this] at hC
      exact ⟨N, rfl, hL, hC⟩
    | succ d ih =>
      intro p n N hp hn hL hC
      obtain ⟨n, rfl⟩ : ∃ q, n = q + 1 := ⟨n - 1, by omega⟩
      have hx : gp_xC N x := h.fr (hL.2 1 (by omega) (by omega)) (hL.2 2 (by omega) (by omega))
      obtain ⟨s1, s2, s3⟩ := hs p (by omega) (by omega)
      have hl := gp_lm_len (x := x) (p := p) (by omega)
      obtain ⟨N2, e1, e2, e3⟩ := gp_insC (q := p) (s := x.getD p 0 - 97) hC (by omega) (by omega) (by omega)
      have ei : gp_ins (gp_lm x p) p (x.getD p 0 - 97) = gp_lm x (p + 1) := by
        rw [gp_lm_s (by omega)]
        have := gp_ins_end (gp_lm x p) (x.getD p 0 - 97)
        rwa [hl] at this
      rw [ei] at e3
      rw [f5_take_7, hx.2.1, if_neg (nI_ge (by omega) (by omega)), gp_xget hx (by omega), gp_eB2, show (97 : Int32) = nI 97 from rfl, gp_subI s2, e1, gp_eB, gp_eL, nI_1]
      exact ih (p + 1) n N2 (by omega) (by omega) ⟨e2.1.trans hL.1, fun c c1 c2 => (e2.2 c c1 c2).trans (hL.2 c c1 c2)⟩ e3
  unfold f5_take
  rw [gp_eL]
  refine main x.length 0 gz_FU _ (by omega) (by unfold gz_FU; omega) ⟨rfl, fun c c1 c2 => gp_wc _ c1⟩ ⟨by unfold gp_lm; simp, by rw [gp_gs]; unfold gp_lm; simp; rfl, fun i hi => absurd hi (by unfold gp_lm; simp)⟩
theorem gp_wrN {q : Nat} (h : M.1 0 9 = nI q) (hq : q < 2 ^ 31) : f12_wasRight M = some (0, M) := by
  have e19 : f12_wasRight_19 M = some (0, M) := by
    unfold f12_wasRight_19
    rw [gp_nfine h hq, gp_eB2, gp_b0, gp_eC]
  unfold f12_wasRight
  split
  · exact e19
  · rw [gp_faultN h hq, gp_eB, e19]
/-- what reading a line may change -/
def gp_lnL (M M' : gz_M) : Prop := M'.2 = M.2 ∧ (∀ c, c ≠ 0 → c ≠ 15 → M'.1 c = M.1 c) ∧ ∀ i, i ≠ 8 → i ≠ 9 → M'.1 0 i = M.1 0 i
theorem gp_line11 : ∀ (d p n : Nat) (M : gz_M), p + d = x.length → d + 1 < n → gp_at M x p → p ≤ 24 → (∀ i, i < p → M.1 15 i = nI (x.getD i 0 - 97)) → ∃ M', gp_lnL M M' ∧ ((∃ q, gp_lf x d p = some q ∧ f12_line_11 n (nI p) M = some ((-1) - nI q, M')) ∨ (gp_lf x d p = none ∧ f12_line_11 n (nI p) M = (gz_bd (f12_change M') fun M5 => gz_bd (f12_setLine (nI x.length) M5) fun M7 => some (nI x.length, M7)) ∧ ∀ i, i < x.length → M'.1 15 i = nI (x.getD i 0 - 97))) := by
  intro d
  induction d with
  | zero =>
    intro p n M hp hn ha h24 hd
    have h80 := ha.1
    obtain ⟨n, rfl⟩ : ∃ q, n = q + 1 := ⟨n - 1, by omega⟩
    have : p = x.length := by omega
    subst this
    refine ⟨M, ⟨rfl, fun _ _ _ => rfl, fun _ _ _ => rfl⟩, Or.inr ⟨rfl, ?_, hd⟩⟩
    rw [f12_line_11, gp_fineE ha, gp_eB2, if_neg (by decide), ha.2.2.1, ha.2.2.2.1, if_pos (nI_le (Nat.le_refl _) (by omega))]
    unfold f12_line_73
    rw [gp_wrE ha, if_pos rfl, gp_eB2, if_neg (by decide)]
  | succ d ih =>
    intro p n M hp hn ha h24 hd
    have h80 := ha.1
    obtain ⟨n, rfl⟩ : ∃ q, n = q + 2 := ⟨n - 2, by omega⟩
    have e73 : ∀ (N : gz_M) (v : Int32), N.1 0 9 = nI p → f12_line_73 v N = some ((-1) - nI p, N) := fun N v h9 => by
      unfold f12_line_73
      rw [gp_wrN h9 (by omega), gp_eB2, if_pos rfl, h9]
    rw [f12_line_11, gp_fineE ha, gp_eB2, if_neg (by decide), ha.2.2.1, ha.2.2.2.1, if_neg (nI_ge (by omega) (by omega)), gp_lf]
    by_cases he : p = 24
    · have f24 := gp_faultE ha
      rw [ha.2.2.2.1] at f24
      have h9 : (gz_w M 0 9 (nI p)).1 0 9 = nI p := gp_gs _ _ _ _
      refine ⟨gz_w (gz_w M 0 9 (nI p)) 15 0 0, ⟨rfl, fun c c1 c2 => by rw [gp_wc _ c2, gp_wc _ c1], fun i i1 i2 => by rw [gp_gn (by omega), gp_gn (by omega)]⟩, Or.inl ⟨p, if_pos (Or.inl (by omega)), ?_⟩⟩
      rw [if_pos (show nI p = (24 : Int32) from by rw [he]; rfl), f24, gp_eB]
      unfold f12_line_43 f12_line_58
      rw [if_pos (show (24 : Int32) ≤ nI p from by rw [he]; decide), gp_oneN h9 (by omega), gp_eB2, show gz_inb 0 24 = true from gp_inb (i := 0) (by omega) (by omega), gp_eC, show (0 : Int32).toNatClampNeg = 0 from rfl, gp_eL, gp_eL, f12_line_11, gp_nfine (q := p) (by rw [gp_gn (by omega)]; exact h9) (by omega), gp_eB2, if_pos rfl, e73 _ _ (by rw [gp_gn (by omega)]; exact h9)]
    · have one := gp_oneE ha (a := 97) (b := 7) (by omega) (by omega)
      have hhr : gp_hr x p = some (x.getD p 0) := gp_hrS (by omega)
      rw [hhr] at one
      dsimp only at one
      rw [if_neg (show ¬ nI p = (24 : Int32) from fun h => he ((nI_eq (b := 24) (by omega) (by omega)).mp h))]
      unfold f12_line_43 f12_line_58
      rw [if_neg (show ¬ (24 : Int32) ≤ nI p from nI_ge (b := 24) (by omega) (by omega)), show f12_oneOf 97 8 M = _ from one]
      by_cases hs : 97 ≤ x.getD p 0 ∧ x.getD p 0 ≤ 104
      · rw [if_pos (show 97 ≤ x.getD p 0 ∧ x.getD p 0 ≤ 97 + 7 from hs), gp_eB2, gp_ckb (show p < 24 by omega) (by omega), nI_clamp (by omega), gp_eL, nI_1, gp_eL, if_neg (show ¬ (24 ≤ p ∨ ¬ (97 ≤ x.getD p 0 ∧ x.getD p 0 ≤ 104)) from fun g => g.elim (by omega) (fun g => g hs))]
        have aN : gp_at (gz_w (gz_w M 0 8 (nI (p + 1))) 15 p (nI (x.getD p 0 - 97))) x (p + 1) := by
          have a1 := ha.nx (show p < x.length by omega)
          exact ⟨a1.1, a1.2.1, by rw [gp_gn (by omega)]; exact a1.2.2.1, by rw [gp_gn (by omega)]; exact a1.2.2.2.1, by rw [gp_gn (by omega)]; exact a1.2.2.2.2.1, fun i hi => by rw [gp_gn (by omega)]; exact a1.2.2.2.2.2 i hi⟩
        obtain ⟨M', f1, f2⟩ := ih (p + 1) (n + 1) _ (by omega) (by omega) aN (by omega) (fun i hi => by
          by_cases hip : i = p
          · rw [hip, gp_gs]
          · rw [gp_gn (by omega), gp_gn (by omega)]
            exact hd i (by omega))
        exact ⟨M', ⟨f1.1.trans rfl, fun c c1 c2 => by rw [f1.2.1 c c1 c2, gp_wc _ c2, gp_wc _ c1], fun i i1 i2 => by rw [f1.2.2 i i1 i2, gp_gn (by omega), gp_gn (by omega)]⟩, f2⟩
      · have h9 : (gz_w M 0 9 (nI p)).1 0 9 = nI p := gp_gs _ _ _ _
        refine ⟨gz_w (gz_w M 0 9 (nI p)) 15 p 0, ⟨rfl, fun c c1 c2 => by rw [gp_wc _ c2, gp_wc _ c1], fun i i1 i2 => by rw [gp_gn (by omega), gp_gn (by omega)]⟩, Or.inl ⟨p, if_pos (Or.inr hs), ?_⟩⟩
        rw [if_neg (show ¬ (97 ≤ x.getD p 0 ∧ x.getD p 0 ≤ 97 + 7) from hs), gp_eB2, gp_ckb (show p < 24 by omega) (by omega), nI_clamp (by omega), gp_eL, gp_eL, f12_line_11, gp_nfine (q := p) (by rw [gp_gn (by omega)]; exact h9) (by omega), gp_eB2, if_pos rfl, e73 _ _ (by rw [gp_gn (by omega)]; exact h9)]
theorem gp_a5 (h : gp_RI B pf cu Mc Mr x b us ks o) : gp_call B (g11_line Mc pf) (f12_line Mr) := by
  have hR := h
  obtain ⟨⟨q1, q2, q3, q4, q5, q6, q7, q8⟩, h2, h3, h4, h5, h6, h7, h8, h9, h10, h11⟩ := h
  have hcu := q6.1
  have h80 := h3.1
  obtain ⟨M2, b1, b2, b3⟩ := gp_begin (M := gz_w Mr 0 5 0) (h4.fr (gp_wc _ (by omega)) (gp_gn (by omega)))
  obtain ⟨M3, l1, l2⟩ := gp_line11 (x := x) x.length 0 gz_FU M2 (by omega) (by unfold gz_FU; omega) b3 (by omega) (fun i hi => absurd hi (by omega))
  have m3_2 : M3.2 = Mr.2 := by rw [l1.1, b2.1]; rfl
  have m3_c : ∀ c, c ≠ 0 → c ≠ 4 → c ≠ 15 → M3.1 c = Mr.1 c := fun c e1 e2 e3 => by rw [l1.2.1 c e1 e3, b2.2.1 c e1 e2, gp_wc _ e1]
  have m3_0 : ∀ i, i ≠ 2 → i ≠ 5 → i ≠ 7 → i ≠ 8 → i ≠ 9 → M3.1 0 i = Mr.1 0 i := fun i a1 a2 a3 a4 a5 => by rw [l1.2.2 i a4 a5, b2.2.2.1 i a1 a3 a4 a5, gp_gn (by omega)]
  have m3_02 : M3.1 0 2 = 0 := by rw [l1.2.2 2 (by omega) (by omega)]; exact b2.2.2.2
  have start : f12_line Mr = f12_line_11 gz_FU (nI 0) M2 := by
    unfold f12_line
    rw [gp_eL, b1, gp_eB]
    rfl
  have cf := gp_lfC h3
  rcases l2 with ⟨q, l2, l3⟩ | ⟨l2, l3, l4⟩
  · have hq : q < 81 := by
      have := (gp_lf_some _ _ _ l2).2.1
      omega
    obtain ⟨n1, n2⟩ := gp_neg1 q hq
    rw [l2] at cf
    refine ⟨(-1) - nI q, gz_w Mc 1 1 0, pf, M3, ?_, by rw [start]; exact l3, cu, [], b, us, ks, o, hR.emp rfl (fun c e1 e2 => gp_wc _ e1) (gp_gs _ _ _ _) m3_2 (fun c e1 e2 e3 => m3_c c (by omega) (by omega) e2) (m3_0 4 (by omega) (by omega) (by omega) (by omega) (by omega)) (m3_0 51 (by omega) (by omega) (by omega) (by omega) (by omega)) m3_02 (q3.fr (fun c c1 c2 => m3_c c (by omega) (by omega) (by omega)) (m3_0 10 (by omega) (by omega) (by omega) (by omega) (by omega)))⟩
    unfold g11_line
    rw [cf, gp_eB2, if_neg (show ¬ gp_ans1 (some q) = 0 from n1)]
    unfold g11_line_45
    rw [gp_emptyC, gp_eB, if_neg (show ¬ 0 ≤ gp_ans1 (some q) from n2)]
    rfl
  · rw [l2] at cf
    have hs := gp_lf_none _ _ l2
    have h24 : x.length ≤ 24 := by
      rcases Nat.eq_zero_or_pos x.length with h0 | h0
      · omega
      · have := (hs (x.length - 1) (by omega) (by omega)).1
        omega
    -- the component
    obtain ⟨C1, pf', o', p1, p2, p3, p4, p5, p6⟩ := gp_pushG (M := Mc) (b := b) h7 h8 ⟨h5, q4⟩
    obtain ⟨C2, t1, t2, t3⟩ := gp_takeC (k := 9) (M := C1) (by omega) (h3.fr (p3 1 (by omega) (by omega)) (p3 2 (by omega) (by omega))) l2
    have c2c : ∀ c, c ≠ 9 → c ≠ 10 → c ≠ 131 → c < 135 ∨ 175 ≤ c → C2.1 c = Mc.1 c := fun c e1 e2 e3 e4 => by rw [t2.2 c e1 e2, p3 c e3 e4]
    obtain ⟨C3, f1, f2, f3, f4⟩ := gp_recut (M := C2) (t := b.1) (l := gp_lm x x.length) q1 (q2.fr (fun c c1 c2 => c2c c (by omega) (by omega) (by omega) (by omega))) t3 hcu (by rw [c2c 0 (by omega) (by omega) (by omega) (by omega)]; exact q6.2.1)
    have eC : g11_line Mc pf = some (nI x.length, gz_w C3 1 1 0, pf') := by
      unfold g11_line
      rw [cf, gp_eB2, if_pos (show gp_ans1 none = 0 from rfl), show decide (0 + 1 ≤ 1) = true from by decide, gp_eC, p1, gp_eB2, show (7 + 2 : Nat) = 9 from rfl, t1, gp_eB, f1, gp_eB]
      unfold g11_line_45
      rw [gp_emptyC, gp_eB, if_pos (show 0 ≤ gp_ans1 none from by decide), gp_wc _ (by omega), show (7 + 2 : Nat) = 9 from rfl, f3 9 (by omega), t3.2.1, gp_lm_len (Nat.le_refl _)]
    -- the reference
    have rb3 : gp_rB 1 0 M3 b := h6.fr (m3_c 1 (by omega) (by omega) (by omega))
    obtain ⟨M4, d1, d2, d3, d4, d5⟩ := gp_chgR (M := M3) (us := us) (b := b) (h10.fr (m3_c 33 (by omega) (by omega) (by omega)) (m3_0 51 (by omega) (by omega) (by omega) (by omega) (by omega))) h8.2.1 h9 h2 rb3
    obtain ⟨M5, s1, s2, s3, s4, s5, s6⟩ := gp_setL h24 M4
    have m5c : ∀ c, c ≠ 0 → c ≠ 1 → c ≠ 4 → c ≠ 15 → c ≠ 33 → c ≠ 34 → M5.1 c = Mr.1 c := fun c e1 e2 e3 e4 e5 e6 => by rw [s3 c e2, d3 c e1 e5 e6, m3_c c e1 e3 e4]
    have m50 : ∀ i, i ≠ 2 → i ≠ 5 → i ≠ 7 → i ≠ 8 → i ≠ 9 → i ≠ 51 → M5.1 0 i = Mr.1 0 i := fun i a1 a2 a3 a4 a5 a6 => by rw [s3 0 (by omega), d4 i a6, m3_0 i a1 a2 a3 a4 a5]
    have eR : f12_line Mr = some (nI x.length, M5) := by rw [start, l3, d1, gp_eB, s1, gp_eB]
    have c4c : ∀ c, c ≠ 1 → (gz_w C3 1 1 0).1 c = C3.1 c := fun c hc => gp_wc _ hc
    have c4o : ∀ c, c ≠ 1 → c ≠ 9 → c ≠ 10 → c ≠ 131 → c < 135 ∨ 175 ≤ c → c < cu ∨ cu + 9 ≤ c → (gz_w C3 1 1 0).1 c = Mc.1 c := fun c a1 a2 a3 a4 a5 a6 => by rw [c4c c a1, f3 c a6, c2c c a2 a3 a4 a5]
    have hl4 : gp_lC 9 (gz_w C3 1 1 0) (gp_lm x x.length) := t3.fr (fun c a1 a2 => by rw [c4c c (by omega), f3 c (by omega)])
    refine ⟨_, _, pf', M5, eC, eR, cu, [], (b.1, gp_lm x x.length), (if us.length = 10 then us.drop 1 else us) ++ [b], ks, o', hR.nl hcu ?_ ?_ (fun c hc => c4o c (by omega) (by omega) (by omega) (by omega) (by omega) (by omega)) hl4 (f4.fr (fun c a1 a2 => c4c c (by omega))) (gp_xC0 _ (gp_gs _ _ _ _)) p4 p5 (p6.fr (fun c hc => by rw [c4c c (by omega), f3 c (by omega), t2.2 c (by omega) (by omega)])) (fun c hc => m5c c (by omega) (by omega) (by omega) (by omega) (by omega) (by omega)) (m50 10 (by omega) (by omega) (by omega) (by omega) (by omega) (by omega)) ?_ (gp_txR0 _ ?_) (d5.fr (s3 33 (by omega)) (by rw [s3 0 (by omega)])) ?_ (q8.fr ?_ ?_ ?_ ?_)⟩
    · rw [c4o 0 (by omega) (by omega) (by omega) (by omega) (by omega) (by omega)]; exact q6.2.1
    · rw [c4o 0 (by omega) (by omega) (by omega) (by omega) (by omega) (by omega)]; exact q7
    · refine ⟨?_, fun i hi => ?_, ?_, fun i hi => ?_⟩
      · rw [s4 0 (by omega), d3 1 (by omega) (by omega) (by omega), m3_c 1 (by omega) (by omega) (by omega)]
        exact h6.1
      · have hi : i < b.1.length := hi
        have := h2.1.1
        rw [s4 _ (by omega), d3 1 (by omega) (by omega) (by omega), m3_c 1 (by omega) (by omega) (by omega)]
        exact h6.2.1 i hi
      · rw [Nat.zero_add, s5]
        show _ = nI (gp_lm x x.length).length
        rw [gp_lm_len (Nat.le_refl _)]
      · have hi : i < (gp_lm x x.length).length := hi
        rw [gp_lm_len (Nat.le_refl _)] at hi
        rw [Nat.zero_add, s6 i hi, d3 15 (by omega) (by omega) (by omega), l4 i hi]
        show _ = nI ((gp_lm x x.length).getD i 0)
        rw [gp_lm_D (Nat.le_refl _) hi]
    · rw [s3 0 (by omega), d4 2 (by omega), m3_02]
    · intro u hu
      rcases List.mem_append.mp hu with hu | hu
      · split at hu
        · exact h9 u (List.mem_of_mem_drop hu)
        · exact h9 u hu
      · rw [List.mem_singleton.mp hu]
        exact h2
    · rw [gp_gl, f2, t2.1, p2]
    · rw [c4o 0 (by omega) (by omega) (by omega) (by omega) (by omega) (by omega)]
    · rw [s2, d2, m3_2]
    · exact m50 4 (by omega) (by omega) (by omega) (by omega) (by omega) (by omega)
end
