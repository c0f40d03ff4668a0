/-! all standings that can be come to: standing, from which entry (none: at first), by which sign -/
abbrev gp_E : Type := List (Nat × Option Nat × Nat)
def gp_e0 : Nat × Option Nat × Nat := (0, none, 0)
def gp_fnd (E : gp_E) (S : Nat) (fr : Option Nat) (s : Nat) : gp_E := if S = 0 ∨ S ∈ E.map (fun e => e.1) then E else E ++ [(S, fr, s)]
def gp_spr (T : gp_T) (m nx : Nat) (fr : Option Nat) (E : gp_E) : Nat → gp_E
  | 0 => E
  | x + 1 => gp_fnd (gp_spr T m nx fr E x) (nx &&& T.2.2 (15 + m) x) fr x
def gp_exF (T : gp_T) (m : Nat) : Nat → Nat → gp_E → gp_E
  | 0, _, E => E
  | d + 1, h, E => if h < E.length then gp_exF T m d (h + 1) (gp_spr T m (gp_aft T m (E.getD h gp_e0).1) (some h) E 8) else E
def gp_ex (T : gp_T) (m : Nat) : gp_E := gp_exF T m 1024 0 (gp_spr T m (T.2.2 8 m) none [] 8)
def gp_wE (E : gp_E) : Prop := (E.map (fun e => e.1)).Nodup ∧ ∀ i, i < E.length → 0 < (E.getD i gp_e0).1 ∧ (E.getD i gp_e0).1 < 1024 ∧ (E.getD i gp_e0).2.2 < 8 ∧ ∀ g, (E.getD i gp_e0).2.1 = some g → g < i
def gp_frS (E : gp_E) (fr : Option Nat) : Nat := match fr with
  | none => 0
  | some g => (E.getD g gp_e0).1
def gp_exC (M : gz_M) (E : gp_E) : Prop := M.1 123 3 = nI E.length ∧ (∀ i, i < E.length → M.1 124 i = nI (E.getD i gp_e0).1 ∧ M.1 125 (E.getD i gp_e0).1 = nI (8 * gp_frS E (E.getD i gp_e0).2.1 + (E.getD i gp_e0).2.2)) ∧ ∀ S, S < 1024 → S ∉ E.map (fun e => e.1) → M.1 125 S = gp_no
def gp_exR (M : gz_M) (E : gp_E) : Prop := M.1 0 44 = nI E.length ∧ (∀ i, i < E.length → M.1 24 i = nI (E.getD i gp_e0).1 ∧ M.1 25 i = gp_o (E.getD i gp_e0).2.1 ∧ M.1 26 i = nI (E.getD i gp_e0).2.2) ∧ ∀ S, S < 1024 → (S ∈ E.map (fun e => e.1) → M.1 27 S = 1) ∧ (S ∉ E.map (fun e => e.1) → M.1 27 S = 0)
theorem gp_pig : ∀ (N : Nat) (L : List Nat), L.Nodup → (∀ x, x ∈ L → x < N) → L.length ≤ N
  | 0, L, _, h => by
    cases L with
    | nil => simp
    | cons a L => exact absurd (h a List.mem_cons_self) (by omega)
  | N + 1, L, hn, h => by
    by_cases hN : N ∈ L
    · have h1 := gp_pig N (L.erase N) (hn.erase N) (fun x hx => by
        have h2 := h x (List.mem_of_mem_erase hx)
        have h3 : x ≠ N := fun e => by
          subst e
          exact (List.Nodup.mem_erase_iff hn).mp hx |>.1 rfl
        omega)
      rw [List.length_erase_of_mem hN] at h1
      omega
    · have h1 := gp_pig N L hn (fun x hx => by
        have h2 := h x hx
        have h3 : x ≠ N := fun e => hN (e ▸ hx)
        omega)
      omega
theorem gp_wE.len {E : gp_E} (h : gp_wE E) : E.length ≤ 1023 := by
  have h1 := gp_pig 1024 (0 :: E.map (fun e => e.1)) (List.nodup_cons.mpr ⟨fun h0 => by
    obtain ⟨e, he, he2⟩ := List.mem_map.mp h0
    obtain ⟨i, hi, hi2⟩ := List.mem_iff_getElem.mp he
    have := (h.2 i hi).1
    simp [List.getD, hi, hi2, he2] at this, h.1⟩) (fun x hx => by
    rcases List.mem_cons.mp hx with rfl | hx
    · decide
    · obtain ⟨e, he, he2⟩ := List.mem_map.mp hx
      obtain ⟨i, hi, hi2⟩ := List.mem_iff_getElem.mp he
      have := (h.2 i hi).2.1
      simp [List.getD, hi, hi2, he2] at this
      exact this)
  simp at h1
  omega
theorem gp_wE.fnd {E : gp_E} (h : gp_wE E) {S s : Nat} {fr : Option Nat} (hS : S < 1024) (hs : s < 8) (hf : ∀ g, fr = some g → g < E.length) : gp_wE (gp_fnd E S fr s) := by
  unfold gp_fnd
  split
  · exact h
  · rename_i hc
    refine ⟨?_, fun i hi => ?_⟩
    · rw [List.map_append, List.map_singleton]
      refine List.nodup_append.mpr ⟨h.1, by simp, fun a ha b hb => ?_⟩
      simp at hb
      intro e
      exact hc (Or.inr (by rw [← hb, ← e]; exact ha))
    · rw [List.length_append, List.length_singleton] at hi
      by_cases h1 : i < E.length
      · rw [gp_getD_l h1]
        exact h.2 i h1
      · have : i = E.length := by omega
        subst this
        rw [gp_getD_r]
        exact ⟨by omega, hS, hs, hf⟩
theorem gp_fnd_len (E : gp_E) (S s : Nat) (fr : Option Nat) : E.length ≤ (gp_fnd E S fr s).length := by
  unfold gp_fnd
  split <;> simp
theorem gp_frA {E : gp_E} {e : Nat × Option Nat × Nat} {fr : Option Nat} (hf : ∀ g, fr = some g → g < E.length) : gp_frS (E ++ [e]) fr = gp_frS E fr := by
  cases fr with
  | none => rfl
  | some g =>
    unfold gp_frS
    dsimp only
    rw [gp_getD_l (hf g rfl)]
section
variable {B : Prop} {k k0 k1 m S s x p cu i j nx : Nat} {M M' Mc Mr Mc' Mr' : gz_M} {T : gp_T} {l : List Nat} {E : gp_E} {fr : Option Nat}
theorem gp_spr_f (hw : gp_wT T) (hm : m < 4) (h : gp_wE E) (hn : nx < 1024) (hf : ∀ g, fr = some g → g < E.length) : ∀ x, x ≤ 8 → gp_wE (gp_spr T m nx fr E x) ∧ E.length ≤ (gp_spr T m nx fr E x).length
  | 0, _ => ⟨h, Nat.le_refl _⟩
  | x + 1, hx => by
    obtain ⟨h1, h2⟩ := gp_spr_f hw hm h hn hf x (by omega)
    refine ⟨h1.fnd (Nat.lt_of_le_of_lt Nat.and_le_left hn) (by omega) (fun g hg => by have := hf g hg; omega), ?_⟩
    have := gp_fnd_len (gp_spr T m nx fr E x) (nx &&& T.2.2 (15 + m) x) x fr
    show E.length ≤ (gp_fnd _ _ _ _).length
    omega
/-- what the search of the component leaves -/
def gp_sL (M M' : gz_M) : Prop := M'.2 = M.2 ∧ ∀ c, c < 123 ∨ 126 ≤ c → M'.1 c = M.1 c
theorem gp_sL.trans {M1 M2 M3 : gz_M} (a : gp_sL M1 M2) (b : gp_sL M2 M3) : gp_sL M1 M3 := ⟨b.1.trans a.1, fun c hc => (b.2 c hc).trans (a.2 c hc)⟩
theorem gp_shl3 {a : Nat} : gz_shl (nI a) 3 = nI (a * 8) := by
  unfold gz_shl
  apply Int32.toBitVec_inj.mp
  have e : (nI a <<< ((3 : Int32) &&& 31)).toBitVec = (nI a).toBitVec <<< (3 : Nat) := by
    rw [Int32.toBitVec_shiftLeft]
    rfl
  rw [e]
  apply BitVec.eq_of_toNat_eq
  simp [nI, Nat.shiftLeft_eq]
theorem gp_by3 {a s : Nat} (hs : s < 8) : gz_shl (nI a) 3 ||| nI s = nI (8 * a + s) := by
  rw [gp_shl3, gp_or]
  have := Nat.shiftLeft_add_eq_or_of_lt (i := 3) (b := s) (by omega) a
  rw [Nat.shiftLeft_eq] at this
  have h8 : a * 8 ||| s = a * 8 + s := this.symm
  rw [h8]
  congr 1
  omega
theorem gp_spread (hw : gp_wT T) (hm : m < 4) (h : gp_wE E) (hn : nx < 1024) (hf : ∀ g, fr = some g → g < E.length) (ht : gp_tC 11 M T) (hE : gp_exC M E) : ∃ M', f8_spread 11 (nI m) (nI (gp_frS E fr)) (nI nx) M = some M' ∧ gp_sL M M' ∧ gp_exC M' (gp_spr T m nx fr E 8) := by
  have hfS : ∀ x, x ≤ 8 → gp_frS (gp_spr T m nx fr E x) fr = gp_frS E fr := by
    intro x
    induction x with
    | zero => intro _; rfl
    | succ x ih =>
      intro hx
      rw [← ih (by omega), gp_spr]
      unfold gp_fnd
      split
      · rfl
      · exact gp_frA (fun g hg => by
          have := hf g hg
          have := (gp_spr_f (T := T) (m := m) hw hm h hn hf x (by omega)).2
          omega)
  have hfb : gp_frS E fr < 1024 := by
    cases fr with
    | none => show 0 < 1024; decide
    | some g => exact (h.2 g (hf g rfl)).2.1
  have c : ∃ b, f8_spread_3 11 gz_FU (nI m) (nI (gp_frS E fr)) (nI nx) (nI 0) M = some b ∧ (gp_sL M b ∧ gp_exC b (gp_spr T m nx fr E 8)) := by
    refine gp_for (fun n x (M1 : gz_M) => f8_spread_3 11 n (nI m) (nI (gp_frS E fr)) (nI nx) (nI x) M1) 8 (fun x M1 => gp_sL M M1 ∧ gp_exC M1 (gp_spr T m nx fr E x)) _ (fun n M1 hI => ?_) (fun n x M1 hx hI => Or.inr ?_) gz_FU 0 M (by omega) (by unfold gz_FU; omega) ⟨⟨rfl, fun _ _ => rfl⟩, hE⟩
    · refine ⟨M1, ?_, hI.1, hI.2⟩
      show f8_spread_3 11 (n + 1) _ _ _ (nI 8) M1 = _
      rw [f8_spread_3, if_pos (by decide)]
    · obtain ⟨i1, i2⟩ := hI
      have ht1 : gp_tC 11 M1 T := ht.fr (fun c c1 c2 => i1.2 c (by omega))
      obtain ⟨hwx, hlx⟩ := gp_spr_f (T := T) (m := m) hw hm h hn hf x (by omega)
      have hlen := hwx.len
      have hS : nx &&& T.2.2 (15 + m) x < 1024 := Nat.lt_of_le_of_lt Nat.and_le_left hn
      have hspr : gp_spr T m nx fr E (x + 1) = gp_fnd (gp_spr T m nx fr E x) (nx &&& T.2.2 (15 + m) x) fr x := rfl
      rw [hspr]
      have hfSx := hfS x (by omega)
      generalize gp_spr T m nx fr E x = E1 at *
      obtain ⟨S, hSe⟩ : ∃ S, nx &&& T.2.2 (15 + m) x = S := ⟨_, rfl⟩
      rw [hSe] at hS ⊢
      have no51 : f8_spread_51 11 (f8_spread_3 11 n) (nI m) (nI (gp_frS E fr)) (nI nx) (nI x) (nI S) 0 M1 = f8_spread_3 11 n (nI m) (nI (gp_frS E fr)) (nI nx) (nI (x + 1)) M1 := by
        unfold f8_spread_51
        rw [if_pos rfl, gp_eL, nI_1]
      have e3 : f8_spread_3 11 (n + 1) (nI m) (nI (gp_frS E fr)) (nI nx) (nI x) M1 = (if nI S ≤ 0 then (f8_spread_51 11 (f8_spread_3 11 n) (nI m) (nI (gp_frS E fr)) (nI nx) (nI x) (nI S) 0 M1) else (if 1024 ≤ nI S then (f8_spread_51 11 (f8_spread_3 11 n) (nI m) (nI (gp_frS E fr)) (nI nx) (nI x) (nI S) 0 M1) else (gz_ck (gz_inb (nI S) 1024) <| if (M1.1 125 (nI S).toNatClampNeg) = (-1) then (f8_spread_51 11 (f8_spread_3 11 n) (nI m) (nI (gp_frS E fr)) (nI nx) (nI x) (nI S) 1 M1) else (f8_spread_51 11 (f8_spread_3 11 n) (nI m) (nI (gp_frS E fr)) (nI nx) (nI x) (nI S) 0 M1)))) := by
        rw [f8_spread_3, if_neg (by exact nI_ge hx (by decide)), gp_takersOf ht1 hm hx, gp_eB2, gp_eL, gp_and, hSe]
      by_cases hz : S = 0
      · refine ⟨M1, ?_, i1, ?_⟩
        · show f8_spread_3 11 (n + 1) _ _ _ (nI x) M1 = f8_spread_3 11 n _ _ _ (nI (x + 1)) M1
          rw [e3, if_pos (by rw [hz]; decide), no51]
        · unfold gp_fnd
          rw [if_pos (Or.inl hz)]
          exact i2
      · have e4 : f8_spread_3 11 (n + 1) (nI m) (nI (gp_frS E fr)) (nI nx) (nI x) M1 = (if (M1.1 125 S) = (-1) then (f8_spread_51 11 (f8_spread_3 11 n) (nI m) (nI (gp_frS E fr)) (nI nx) (nI x) (nI S) 1 M1) else (f8_spread_51 11 (f8_spread_3 11 n) (nI m) (nI (gp_frS E fr)) (nI nx) (nI x) (nI S) 0 M1)) := by
          rw [e3, if_neg (by exact nI_nle (by omega) (by omega)), if_neg (by exact nI_ge hS (by decide)), gp_ckb hS (by omega), nI_clamp (by omega)]
        by_cases hmem : S ∈ E1.map (fun e => e.1)
        · obtain ⟨e, he, he2⟩ := List.mem_map.mp hmem
          obtain ⟨q, hq, hq2⟩ := List.mem_iff_getElem.mp he
          have hqS : (E1.getD q gp_e0).1 = S := by simp [List.getD, hq, hq2, he2]
          have hv := (i2.2.1 q hq).2
          rw [hqS] at hv
          have hb : gp_frS E1 (E1.getD q gp_e0).2.1 < 1024 := by
            cases hfr : (E1.getD q gp_e0).2.1 with
            | none => show 0 < 1024; decide
            | some g => exact (hwx.2 g (by have := (hwx.2 q hq).2.2.2 g hfr; omega)).2.1
          have hs8 := (hwx.2 q hq).2.2.1
          refine ⟨M1, ?_, i1, ?_⟩
          · show f8_spread_3 11 (n + 1) _ _ _ (nI x) M1 = f8_spread_3 11 n _ _ _ (nI (x + 1)) M1
            rw [e4, hv, if_neg (by rw [gp_m1, gp_ne1 (by omega)]; exact id), no51]
          · unfold gp_fnd
            rw [if_pos (Or.inr hmem)]
            exact i2
        · have hv := i2.2.2 S hS hmem
          have hfnd : gp_fnd E1 S fr x = E1 ++ [(S, fr, x)] := by
            unfold gp_fnd
            rw [if_neg (by rintro (h | h); exact hz h; exact hmem h)]
          rw [hfnd]
          refine ⟨gz_w (gz_w (gz_w M1 125 S (nI (8 * gp_frS E fr + x))) 124 E1.length (nI S)) 123 3 (nI (E1.length + 1)), ?_, ⟨?_, fun c hc => ?_⟩, ?_, fun i hi => ?_, fun S' hS' hm' => ?_⟩
          · show f8_spread_3 11 (n + 1) _ _ _ (nI x) M1 = f8_spread_3 11 n _ _ _ (nI (x + 1)) _
            rw [e4, hv, if_pos (by rfl)]
            unfold f8_spread_51
            rw [if_neg (by decide), i2.1, if_neg (by exact nI_ge (show E1.length < 1024 by omega) (by decide)), gp_ckb hS (by omega), gp_eL, gp_by3 hx, nI_clamp (by omega), gp_gn (by omega), i2.1, gp_ckb (by omega) (by omega), gp_eL, nI_clamp (by omega), gp_gn (by omega), gp_gn (by omega), i2.1, gp_eL, gp_eL, nI_1, nI_1]
          · rw [gp_gl, gp_gl, gp_gl, i1.1]
          · rw [gp_wc _ (by omega), gp_wc _ (by omega), gp_wc _ (by omega), i1.2 c hc]
          · rw [gp_gs, List.length_append]
            rfl
          · rw [List.length_append, List.length_singleton] at hi
            by_cases hi1 : i < E1.length
            · have hne : (E1.getD i gp_e0).1 ≠ S := fun e => hmem (List.mem_map.mpr ⟨_, gp_getD_mem (d := gp_e0) hi1, e⟩)
              rw [gp_getD_l hi1, gp_frA (fun g hg => by have := (hwx.2 i hi1).2.2.2 g hg; omega), gp_gn (by omega), gp_gn (by omega), gp_gn (by omega), gp_gn (by omega), gp_gn (by omega), gp_gn (by omega)]
              exact i2.2.1 i hi1
            · have : i = E1.length := by omega
              subst this
              rw [gp_getD_r, gp_gn (by omega), gp_gs, gp_gn (by omega), gp_gn (by omega), gp_gs]
              refine ⟨rfl, ?_⟩
              rw [gp_frA (fun g hg => by have := hf g hg; omega), hfSx]
          · rw [List.map_append, List.mem_append, not_or] at hm'
            have hne : S' ≠ S := fun e => hm'.2 (by simp [e])
            rw [gp_gn (by omega), gp_gn (by omega), gp_gn (by omega)]
            exact i2.2.2 S' hS' hm'.1
  obtain ⟨M', c1, c2, c3⟩ := c
  exact ⟨M', c1, c2, c3⟩
theorem gp_fill (k0 n0 : Nat) (v : Int32) (hn : n0 < 999999) (M : gz_M) : ∃ M', fJ_fill k0 n0 v M = some M' ∧ M'.2 = M.2 ∧ (∀ c, c ≠ k0 → M'.1 c = M.1 c) ∧ (∀ i, i < n0 → M'.1 k0 i = v) ∧ ∀ i, n0 ≤ i → M'.1 k0 i = M.1 k0 i := by
  have main : ∀ (d n x : Nat) (M1 : gz_M), x + d = n0 → d < n → ∃ M', fJ_fill_5 k0 n0 n v (nI x) (nI n0) M1 = some M' ∧ M'.2 = M1.2 ∧ (∀ c, c ≠ k0 → M'.1 c = M1.1 c) ∧ (∀ i, x ≤ i → i < n0 → M'.1 k0 i = v) ∧ ∀ i, i < x ∨ n0 ≤ i → M'.1 k0 i = M1.1 k0 i := by
    intro d
    induction d with
    | zero =>
      intro n x M1 hx hn'
      obtain ⟨n, rfl⟩ : ∃ q, n = q + 1 := ⟨n - 1, by omega⟩
      have : x = n0 := by omega
      subst this
      rw [fJ_fill_5, if_pos (nI_le (Nat.le_refl _) (by omega))]
      exact ⟨M1, rfl, rfl, fun _ _ => rfl, fun i h1 h2 => absurd h1 (by omega), fun _ _ => rfl⟩
    | succ d ih =>
      intro n x M1 hx hn'
      obtain ⟨n, rfl⟩ : ∃ q, n = q + 1 := ⟨n - 1, by omega⟩
      rw [fJ_fill_5, if_neg (nI_ge (by omega) (by omega)), gp_ckb (by omega) (by omega), gp_eL, gp_eL, nI_clamp (by omega), nI_1]
      obtain ⟨M', e1, e2, e3, e4, e5⟩ := ih n (x + 1) (gz_w M1 k0 x v) (by omega) (by omega)
      refine ⟨M', e1, e2, fun c hc => (e3 c hc).trans (gp_wc _ hc), fun i h1 h2 => ?_, fun i hi => (e5 i (by omega)).trans (gp_gn (by omega))⟩
      by_cases h : i = x
      · subst h
        rw [e5 i (by omega), gp_gs]
      · exact e4 i (by omega) h2
  unfold fJ_fill
  rw [gp_eL]
  obtain ⟨M', e1, e2, e3, e4, e5⟩ := main n0 gz_FU 0 M (by omega) (by unfold gz_FU; omega)
  exact ⟨M', e1, e2, e3, fun i hi => e4 i (by omega) hi, fun i hi => e5 i (Or.inr hi)⟩
theorem gp_explore27 (hw : gp_wT T) (hm : m < 4) : ∀ (d n h : Nat) (E : gp_E) (M : gz_M), h + d = 1024 → d < n → gp_tC 11 M T → gp_wE E → gp_exC M E → ∃ M', f8_explore_27 11 n (nI m) (nI h) M = some M' ∧ gp_sL M M' ∧ gp_exC M' (gp_exF T m d h E) ∧ gp_wE (gp_exF T m d h E) := by
  intro d
  induction d with
  | zero =>
    intro n h E M hh hn ht hE hx
    obtain ⟨n, rfl⟩ : ∃ q, n = q + 1 := ⟨n - 1, by omega⟩
    have hlen := hE.len
    rw [f8_explore_27, hx.1, if_pos (nI_le (by omega) (by omega))]
    exact ⟨M, rfl, ⟨rfl, fun _ _ => rfl⟩, hx, hE⟩
  | succ d ih =>
    intro n h E M hh hn ht hE hx
    obtain ⟨n, rfl⟩ : ∃ q, n = q + 1 := ⟨n - 1, by omega⟩
    have hlen := hE.len
    rw [f8_explore_27, hx.1, gp_exF]
    by_cases hl : h < E.length
    · have hv := (hx.2.1 h hl).1
      have hS := (hE.2 h hl).2.1
      have hA := gp_lt10 hw hm (gp_aft_lt hw hm (E.getD h gp_e0).1)
      obtain ⟨M1, e1, e2, e3⟩ := gp_spread (fr := some h) hw hm hE hA (fun g hg => by cases hg; exact hl) ht hx
      obtain ⟨w1, w2⟩ := gp_spr_f (fr := some h) (T := T) (m := m) hw hm hE hA (fun g hg => by cases hg; exact hl) 8 (by omega)
      rw [if_neg (nI_ge hl (by omega)), if_neg (by exact nI_ge (show h < 1024 by omega) (by decide)), if_pos hl, gp_ckb (by omega) (by omega), gp_ckb (by omega) (by omega), nI_clamp (by omega), hv, gp_after ht hm hS, gp_eB2]
      have e1' : f8_spread 11 (nI m) (nI (E.getD h gp_e0).1) (nI (gp_aft T m (E.getD h gp_e0).1)) M = some M1 := e1
      rw [e1', gp_eB, gp_eL, nI_1]
      obtain ⟨M', f1, f2, f3⟩ := ih n (h + 1) _ M1 (by omega) (by omega) (ht.fr (fun c c1 c2 => e2.2 c (by omega))) w1 e3
      exact ⟨M', f1, e2.trans f2, f3⟩
    · rw [if_pos (nI_le (by omega) (by omega)), if_neg hl]
      exact ⟨M, rfl, ⟨rfl, fun _ _ => rfl⟩, hx, hE⟩
theorem gp_explore (hw : gp_wT T) (hm : m < 4) (ht : gp_tC 11 M T) : ∃ M', f8_explore 11 (nI m) M = some M' ∧ gp_sL M M' ∧ gp_exC M' (gp_ex T m) ∧ gp_wE (gp_ex T m) := by
  unfold f8_explore
  obtain ⟨M1, e1, e2, e3, e4, e5⟩ := gp_fill 125 1024 (-1) (by omega) M
  have ht1 : gp_tC 11 (gz_w M1 123 3 0) T := ht.fr (fun c c1 c2 => by rw [gp_wc _ (by omega), e3 c (by omega)])
  have hA := gp_lt10 hw hm (hw.2.2 m hm).2.1
  have w0 : gp_wE [] := ⟨by simp, fun i hi => absurd hi (by simp)⟩
  obtain ⟨w1, w2⟩ := gp_spr_f (fr := none) (T := T) (m := m) hw hm w0 hA (fun g hg => by cases hg) 8 (by omega)
  obtain ⟨M2, f1, f2, f3⟩ := gp_spread (fr := none) (E := []) hw hm w0 hA (fun g hg => by cases hg) ht1 ⟨by rw [gp_gs]; rfl, fun i hi => absurd hi (by simp), fun S hS _ => by rw [gp_gn (by omega), e4 S hS]; rfl⟩
  obtain ⟨M', g1, g2, g3, g4⟩ := gp_explore27 hw hm 1024 gz_FU 0 _ M2 (by omega) (by unfold gz_FU; omega) (ht1.fr (fun c c1 c2 => f2.2 c (by omega))) w1 f3
  have f1' : f8_spread 11 (nI m) 0 (nI (T.2.2 8 m)) (gz_w M1 123 3 0) = some M2 := f1
  rw [e1, gp_eB, gp_eL, gp_atFirst ht1 hm, gp_eB2, f1', gp_eB]
  exact ⟨M', g1, (show gp_sL M (gz_w M1 123 3 0) from ⟨e2, fun c hc => by rw [gp_wc _ (by omega), e3 c (by omega)]⟩).trans (f2.trans g2), g3, g4⟩
end
