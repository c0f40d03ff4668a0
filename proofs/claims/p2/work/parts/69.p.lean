/-! ways and fewest: the component's table -/
/-- a rule of mode 0 matches from p up to q -/
def gp_eW (T : gp_T) (l : List Nat) (p q : Nat) : Bool := (gp_win T 0 (gp_ss T 0 l p (q - p)).2).isSome
def gp_eT (T : gp_T) (l : List Nat) (p x : Nat) : Nat := gp_mB (fun q => decide (p < q) && gp_eW T l p q) x
theorem gp_mrg_b {o1 o2 : Option Nat} {b n : Nat} (h1 : ∀ n, o1 = some n → n ≤ b + 1) (h2 : ∀ n, o2 = some n → n ≤ b) (h : gp_mrg o1 o2 = some n) : n ≤ b + 1 := by
  cases o2 with
  | none =>
    have : gp_mrg o1 none = o1 := by cases o1 <;> rfl
    rw [this] at h
    exact h1 n h
  | some n2 =>
    have := h2 n2 rfl
    cases o1 with
    | none => simp [gp_mrg] at h; omega
    | some n1 =>
      have := h1 n1 rfl
      simp only [gp_mrg] at h
      split at h <;> (simp at h; omega)
theorem gp_mn_b {E : Nat → Nat → Bool} {R : Nat → Option Nat} {p b : Nat} (hR : ∀ q n, R q = some n → n ≤ b) : ∀ x n, gp_mn E R p x = some n → n ≤ b + 1
  | 0, n, h => by cases h
  | x + 1, n, h => by
    rw [gp_mn] at h
    split at h
    · exact gp_mrg_b (gp_mn_b hR x) (hR x) h
    · exact gp_mn_b hR x n h
theorem gp_Rf_b {E : Nat → Nat → Bool} {j : Nat} : ∀ f p n, gp_Rf E j f p = some n → n ≤ f
  | 0, p, n, h => by
    rw [gp_Rf] at h
    split at h <;> simp at h
    omega
  | f + 1, p, n, h => by
    rw [gp_Rf] at h
    split at h
    · simp at h; omega
    · exact gp_mn_b (fun q n => gp_Rf_b f q n) (j + 1) n h
section
variable {B : Prop} {k k0 k1 m S s x p cu i j nx : Nat} {M M' Mc Mr Mc' Mr' : gz_M} {T : gp_T} {l : List Nat}
theorem gp_ss_dead1 (T : gp_T) (m : Nat) (l : List Nat) (i t d : Nat) (h : (gp_ss T m l i t).1 = 0) : (gp_ss T m l i (t + 1 + d)).2 = 0 := by
  refine (gp_ss_dead T m l i t d ?_).1
  show (gp_ss T m l i t).1 &&& _ = 0
  rw [h, Nat.zero_and]
theorem gp_eW_dead (T : gp_T) (l : List Nat) (p t d : Nat) (h : (gp_ss T 0 l p (t + 1)).2 = 0) : gp_eW T l p (p + (t + 1 + d)) = false := by
  unfold gp_eW
  rw [show p + (t + 1 + d) - p = t + 1 + d by omega, (gp_ss_dead T 0 l p t d h).1, gp_win0]
  rfl
theorem gp_eW_0 (h : (gp_ss T 0 l p (k - p)).2 = 0) : gp_eW T l p k = false := by
  unfold gp_eW
  rw [h, gp_win0]
  rfl
theorem gp_eT_0 : ∀ x, x ≤ p + 1 → gp_eT T l p x = 0
  | 0, _ => rfl
  | x + 1, hx => by
    have ih := gp_eT_0 x (by omega)
    unfold gp_eT at ih ⊢
    rw [gp_mB_s, ih, if_neg (by simp; omega)]
    rfl
theorem gp_eT_dead {t : Nat} (h : (gp_ss T 0 l p t).1 = 0) : ∀ d, gp_eT T l p (p + t + 1 + d) = gp_eT T l p (p + t + 1)
  | 0 => rfl
  | d + 1 => by
    have ih := gp_eT_dead h d
    have e := gp_eW_0 (T := T) (l := l) (p := p) (k := p + t + 1 + d) (by
      rw [show p + t + 1 + d - p = t + 1 + d by omega]
      exact gp_ss_dead1 T 0 l p t d h)
    unfold gp_eT at ih ⊢
    rw [show p + t + 1 + (d + 1) = (p + t + 1 + d) + 1 by omega, gp_mB_s, ih, if_neg (by simp [e])]
    simp
theorem gp_endsFrom (hw : gp_wT T) (h : gp_tC k0 M T) (hl : gp_lC k1 M l) (hp : p ≤ j) (hj : j ≤ l.length) : f9_endsFrom k0 k1 (nI p) (nI j) M = some (nI (gp_eT T l p (j + 1)), M) := by
  have hl1 := hl.1
  have hm : 0 < 4 := by decide
  unfold f9_endsFrom
  rw [show (0 : Int32) = nI 0 from rfl, gp_atFirst h hm, gp_eB2]
  refine gp_forE (fun n x (a : Int32 × Int32) => f9_endsFrom_13 k0 k1 n (nI j) a.1 a.2 (nI (p + x)) M) (j - p) (fun x a => a = (nI (gp_eT T l p (p + x + 1)), nI (gp_ss T 0 l p x).1)) _ (fun n a hI => ?_) (fun n x a hx hI => ?_) gz_FU 0 (nI 0, nI (T.2.2 8 0)) (by omega) (by unfold gz_FU; omega) (by rw [gp_eT_0 (p + 0 + 1) (by omega)]; rfl)
  · subst hI
    show f9_endsFrom_13 k0 k1 (n + 1) (nI j) _ _ (nI (p + (j - p))) M = _
    rw [f9_endsFrom_13, if_pos (nI_le (by omega) (by omega)), show p + (j - p) = j by omega]
  · subst hI
    show f9_endsFrom_13 k0 k1 (n + 1) (nI j) _ _ (nI (p + x)) M = _ ∨ ∃ s', f9_endsFrom_13 k0 k1 (n + 1) (nI j) _ _ (nI (p + x)) M = f9_endsFrom_13 k0 k1 n (nI j) s'.1 s'.2 (nI (p + (x + 1))) M ∧ s' = (nI (gp_eT T l p (p + (x + 1) + 1)), nI (gp_ss T 0 l p (x + 1)).1)
    have hb := gp_ss_lt (T := T) (m := 0) (i := p) hw hm (fun p hp => (hl.2.2 p hp).2) x (by omega)
    have hb1 := gp_ss_lt (T := T) (m := 0) (i := p) hw hm (fun p hp => (hl.2.2 p hp).2) (x + 1) (by omega)
    have hx10 := gp_lt10 hw hm hb.1
    have hx11 := gp_lt10 hw hm hb1.2
    have hs := (hl.2.2 (p + x) (by omega)).2
    rw [f9_endsFrom_13, if_neg (nI_ge (by omega) (by omega))]
    by_cases hz : (gp_ss T 0 l p x).1 = 0
    · left
      rw [if_pos (by rw [hz]; rfl)]
      have := gp_eT_dead (T := T) (l := l) (p := p) hz (j - p - x)
      rw [show p + x + 1 + (j - p - x) = j + 1 by omega] at this
      rw [this]
    · right
      refine ⟨_, ?_, rfl⟩
      have hS : (gp_ss T 0 l p x).1 &&& T.2.2 (15 + 0) (l.getD (p + x) 0) = (gp_ss T 0 l p (x + 1)).2 := rfl
      rw [if_neg (show ¬ nI (gp_ss T 0 l p x).1 = (0 : Int32) from fun e => hz ((nI_eq (b := 0) (by omega) (by omega)).mp e)), gp_lget hl (by omega), gp_eB2, show (0 : Int32) = nI 0 from rfl, gp_takersOf h hm hs, gp_eB2, gp_eL, gp_and, hS, gp_winner hw h hm hx11, gp_eB2, nI_1]
      have e63 : ∀ s0 : Int32, f9_endsFrom_63 k0 k1 (f9_endsFrom_13 k0 k1 n) (nI j) (nI (p + x)) (nI (gp_ss T 0 l p (x + 1)).2) s0 (nI (gp_eT T l p (p + x + 1))) M = f9_endsFrom_13 k0 k1 n (nI j) (nI (gp_eT T l p (p + x + 1)) ||| s0) (nI (gp_ss T 0 l p (x + 1)).1) (nI (p + (x + 1))) M := by
        intro s0
        unfold f9_endsFrom_63
        rw [gp_eL, show (0 : Int32) = nI 0 from rfl, gp_after h hm hx11, gp_eB2, gp_eL, nI_1]
        rfl
      have hEW : gp_eW T l p (p + x + 1) = (gp_win T 0 (gp_ss T 0 l p (x + 1)).2).isSome := by
        unfold gp_eW
        rw [show p + x + 1 - p = x + 1 by omega]
      have hET : gp_eT T l p (p + (x + 1) + 1) = gp_eT T l p (p + x + 1) ||| if gp_eW T l p (p + x + 1) = true then 1 <<< (p + x + 1) else 0 := by
        show gp_mB _ (p + (x + 1) + 1) = gp_mB _ (p + x + 1) ||| _
        rw [show p + (x + 1) + 1 = (p + x + 1) + 1 by omega, gp_mB_s]
        congr 1
        rw [show decide (p < p + x + 1) = true by simp; omega, Bool.true_and]
      rw [hET, hEW]
      cases hwin : gp_win T 0 (gp_ss T 0 l p (x + 1)).2 with
      | none =>
        rw [if_pos (show gp_o none = (-1 : Int32) from rfl), e63]
        rw [gp_or]
        rfl
      | some w =>
        have hj' := (gp_win_some hwin).1
        have hw1 := hw.1
        rw [if_neg (show ¬ gp_o (some w) = (-1 : Int32) by rw [gp_m1, gp_oS, gp_ne1 (by omega)]; exact id), e63]
        rw [show (1 : Int32) = nI 1 from rfl, gp_shl1 (by omega), gp_or]
        rfl
/-- the table of ways from place p on (up to j) -/
def gp_spC (M : gz_M) (T : gp_T) (l : List Nat) (j p : Nat) : Prop := ∀ q, p ≤ q → q ≤ j → M.1 128 q = nI (gp_eT T l q (j + 1)) ∧ M.1 129 q = nI (gp_Cb (gp_eW T l) j q) ∧ M.1 130 q = gp_o (gp_Rb (gp_eW T l) j q)
/-- what the table's making leaves -/
def gp_wL (M M' : gz_M) : Prop := M'.2 = M.2 ∧ ∀ c, c < 128 ∨ 131 ≤ c → M'.1 c = M.1 c
theorem gp_wL.trans {M1 M2 M3 : gz_M} (a : gp_wL M1 M2) (b : gp_wL M2 M3) : gp_wL M1 M3 := ⟨b.1.trans a.1, fun c hc => (b.2 c hc).trans (a.2 c hc)⟩
theorem gp_Rb_b {E : Nat → Nat → Bool} {n : Nat} (h : gp_Rb E j p = some n) : n ≤ 25 := gp_Rf_b 25 p n h
theorem gp_eT_lt (T : gp_T) (l : List Nat) (p : Nat) {x : Nat} (hx : x ≤ 25) : gp_eT T l p x < 2 ^ 25 := gp_mB_lt _ hx
theorem gp_eT_bit (hp : p < k) (hk : k < x) : (gp_eT T l p x).testBit k = gp_eW T l p k := by
  unfold gp_eT
  rw [gp_mB_bit, show decide (k < x) = true by simpa using hk, show decide (p < k) = true by simpa using hp]
  simp
theorem gp_make82 (hj : j ≤ 24) (hpj : p < j) (c16 : Int32 → Int32 → Int32 → gz_M → Option gz_M) (x3 : Int32) : ∀ (d n q : Nat) (M : gz_M), q + d = j + 1 → d < n → p < q → gp_spC M T l j (p + 1) → M.1 128 p = nI (gp_eT T l p (j + 1)) → M.1 129 p = nI (gp_cs (gp_eW T l) (gp_Cb (gp_eW T l) j) p q) → M.1 130 p = gp_o (gp_mn (gp_eW T l) (gp_Rb (gp_eW T l) j) p q) → ∃ M', f9_make_82 k0 k1 c16 n x3 (nI j) (nI p) (nI q) M = c16 x3 (nI j) (nI p + (-1)) M' ∧ gp_wL M M' ∧ gp_spC M' T l j p := by
  have hcb := gp_Cb_b (E := gp_eW T l) hj
  intro d
  induction d with
  | zero =>
    intro n q M hq hn hpq hM h128 h129 h130
    obtain ⟨n, rfl⟩ : ∃ q, n = q + 1 := ⟨n - 1, by omega⟩
    have : q = j + 1 := by omega
    subst this
    refine ⟨M, ?_, ⟨rfl, fun _ _ => rfl⟩, fun y h1 h2 => ?_⟩
    · rw [f9_make_82, if_pos (nI_lt (by omega) (by omega)), gp_eL]
    · by_cases hy : y = p
      · subst hy
        rw [gp_Cb_p hj (by omega), gp_Rb_p hj (by omega)]
        exact ⟨h128, h129, h130⟩
      · exact hM y (by omega) h2
  | succ d ih =>
    intro n q M hq hn hpq hM h128 h129 h130
    obtain ⟨n, rfl⟩ : ∃ q, n = q + 1 := ⟨n - 1, by omega⟩
    have hqj : q ≤ j := by omega
    obtain ⟨v1, v2, v3⟩ := hM q (by omega) hqj
    have hbit := gp_bitL (a := gp_eT T l p (j + 1)) (i := q) (by have := gp_eT_lt T l p (show j + 1 ≤ 25 by omega); omega) (by omega)
    rw [gp_eT_bit hpq (by omega)] at hbit
    have b1 := (hcb (j - p) p (by omega)).2 q (by omega)
    have b2 := (hcb (j - q) q (by omega)).1
    have b3 : 2 ^ (j - p) ≤ 2 ^ 24 := Nat.pow_le_pow_right (by decide) (by omega)
    have b4 : 2 ^ (j - q) ≤ 2 ^ 24 := Nat.pow_le_pow_right (by decide) (by omega)
    rw [f9_make_82, if_neg (nI_nlt (by omega) (by omega)), gp_ckb (by omega) (by omega), show (nI p).toNatClampNeg = p from nI_clamp (by omega), h128]
    by_cases he : gp_eW T l p q = true
    · have hc : p < q ∧ gp_eW T l p q = true := ⟨hpq, he⟩
      have hcs : gp_cs (gp_eW T l) (gp_Cb (gp_eW T l) j) p (q + 1) = gp_cs (gp_eW T l) (gp_Cb (gp_eW T l) j) p q + gp_Cb (gp_eW T l) j q := by rw [gp_cs, if_pos hc]
      have hmn : gp_mn (gp_eW T l) (gp_Rb (gp_eW T l) j) p (q + 1) = gp_mrg (gp_mn (gp_eW T l) (gp_Rb (gp_eW T l) j) p q) (gp_Rb (gp_eW T l) j q) := by rw [gp_mn, if_pos hc]
      rw [if_neg (show ¬ (gz_shr (nI (gp_eT T l p (j + 1))) (nI q) &&& (1 : Int32)) = (0 : Int32) by rw [hbit, he]; simp)]
      -- the row is added
      have add : ∃ M1, f9_addRow (nI p) (nI q) M = some M1 ∧ gp_wL M M1 ∧ (∀ y, y ≠ p → M1.1 128 y = M.1 128 y ∧ M1.1 129 y = M.1 129 y ∧ M1.1 130 y = M.1 130 y) ∧ M1.1 128 p = M.1 128 p ∧ M1.1 129 p = nI (gp_cs (gp_eW T l) (gp_Cb (gp_eW T l) j) p (q + 1)) ∧ M1.1 130 p = gp_o (gp_mn (gp_eW T l) (gp_Rb (gp_eW T l) j) p (q + 1)) := by
        unfold f9_addRow
        rw [if_neg (nI_pos (by omega)), if_neg (nI_ge hpq (by omega)), if_neg (show ¬ (24 : Int32) < nI q from nI_nlt (a := 24) (by omega) (by omega)), gp_ckb (by omega) (by omega), show (nI q).toNatClampNeg = q from nI_clamp (by omega), v3, gp_itO (fun n hn => by have := gp_Rb_b hn; omega)]
        cases hRq : gp_Rb (gp_eW T l) j q with
        | none =>
          -- no way from there: nothing counted
          have hC0 : gp_Cb (gp_eW T l) j q = 0 := by
            have h1 := gp_ways_eq (E := gp_eW T l) hqj hj
            have h2 := gp_few_eq (E := gp_eW T l) hqj hj
            rw [← h1, (gp_AW j j).mpr (by rw [h2]; exact hRq)]
          rw [if_pos (show (none : Option Nat).isNone = true from rfl)]
          refine ⟨M, rfl, ⟨rfl, fun _ _ => rfl⟩, fun _ _ => ⟨rfl, rfl, rfl⟩, rfl, ?_, ?_⟩
          · rw [hcs, hC0, h129, Nat.add_zero]
          · rw [hmn, hRq, h130]
            cases gp_mn (gp_eW T l) (gp_Rb (gp_eW T l) j) p q <;> rfl
        | some r =>
          have hr := gp_Rb_b hRq
          rw [if_neg (by simp), gp_ckb (by omega) (by omega), gp_ckb (by omega) (by omega), gp_ckb (by omega) (by omega), gp_eL, show (nI p).toNatClampNeg = p from nI_clamp (by omega), h129, v2, nI_add, ← hcs, gp_ckb (by omega) (by omega)]
          have e68 : ∀ M2 : gz_M, M2.1 130 q = nI r → f9_addRow_68 (nI p) (nI q) M2 = some (gz_w M2 130 p (nI (r + 1))) := by
            intro M2 h2
            unfold f9_addRow_68
            rw [gp_ckb (by omega) (by omega), gp_ckb (by omega) (by omega), gp_eL, nI_clamp (by omega), nI_clamp (by omega), h2, nI_1]
          have hM130 : (gz_w M 129 p (nI (gp_cs (gp_eW T l) (gp_Cb (gp_eW T l) j) p (q + 1)))).1 130 p = gp_o (gp_mn (gp_eW T l) (gp_Rb (gp_eW T l) j) p q) := by rw [gp_gn (by omega), h130]
          have hM130q : (gz_w M 129 p (nI (gp_cs (gp_eW T l) (gp_Cb (gp_eW T l) j) p (q + 1)))).1 130 q = nI r := by rw [gp_gn (by omega), v3, hRq]; rfl
          have hmb : ∀ n, gp_mn (gp_eW T l) (gp_Rb (gp_eW T l) j) p q = some n → n < 2 ^ 31 := fun n hn => by have := gp_mn_b (b := 25) (fun q n h => gp_Rb_b h) q n hn; omega
          rw [hM130, hM130q, e68 _ hM130q, gp_itO hmb, gp_ckb (by omega) (by omega), gp_ckb (by omega) (by omega), nI_1]
          have set : ∃ M1 : gz_M, some (gz_w (gz_w M 129 p (nI (gp_cs (gp_eW T l) (gp_Cb (gp_eW T l) j) p (q + 1)))) 130 p (nI (r + 1))) = some M1 ∧ gp_wL M M1 ∧ (∀ y, y ≠ p → M1.1 128 y = M.1 128 y ∧ M1.1 129 y = M.1 129 y ∧ M1.1 130 y = M.1 130 y) ∧ M1.1 128 p = M.1 128 p ∧ M1.1 129 p = nI (gp_cs (gp_eW T l) (gp_Cb (gp_eW T l) j) p (q + 1)) ∧ M1.1 130 p = nI (r + 1) := by
            refine ⟨_, rfl, ⟨rfl, fun c hc => by rw [gp_wc _ (by omega), gp_wc _ (by omega)]⟩, fun y hy => ⟨?_, ?_, ?_⟩, ?_, ?_, gp_gs _ _ _ _⟩
            · rw [gp_gn (by omega), gp_gn (by omega)]
            · rw [gp_gn (by omega), gp_gn (by omega)]
            · rw [gp_gn (by omega), gp_gn (by omega)]
            · rw [gp_gn (by omega), gp_gn (by omega)]
            · rw [gp_gn (by omega), gp_gs]
          cases hmq : gp_mn (gp_eW T l) (gp_Rb (gp_eW T l) j) p q with
          | none =>
            rw [if_pos (show (none : Option Nat).isNone = true from rfl), hmn, hmq, hRq]
            exact set
          | some m0 =>
            have hm0 := hmb m0 hmq
            rw [if_neg (by simp), hmn, hmq, hRq, gp_oS]
            show ∃ M1, (if nI m0 ≤ nI (r + 1) then some (gz_w M 129 p (nI (gp_cs (gp_eW T l) (gp_Cb (gp_eW T l) j) p (q + 1)))) else some (gz_w (gz_w M 129 p (nI (gp_cs (gp_eW T l) (gp_Cb (gp_eW T l) j) p (q + 1)))) 130 p (nI (r + 1)))) = some M1 ∧ _ ∧ _ ∧ _ ∧ _ ∧ M1.1 130 p = gp_o (if r + 1 < m0 then some (r + 1) else some m0)
            by_cases hlt : r + 1 < m0
            · rw [if_neg (nI_ge hlt hm0), if_pos hlt]
              exact set
            · rw [if_pos (nI_le (by omega) (by omega)), if_neg hlt]
              refine ⟨_, rfl, ⟨rfl, fun c hc => by rw [gp_wc _ (by omega)]⟩, fun y hy => ⟨?_, ?_, ?_⟩, ?_, ?_, ?_⟩
              · rw [gp_gn (by omega)]
              · rw [gp_gn (by omega)]
              · rw [gp_gn (by omega)]
              · rw [gp_gn (by omega)]
              · rw [gp_gs]
              · rw [gp_gn (by omega), h130, hmq]
      obtain ⟨M1, a1, a2, a3, a4, a5, a6⟩ := add
      rw [a1, gp_eB, gp_eL, nI_1]
      obtain ⟨M', f1, f2, f3⟩ := ih n (q + 1) M1 (by omega) (by omega) (by omega) (fun y h1 h2 => by
        obtain ⟨u1, u2, u3⟩ := a3 y (by omega)
        rw [u1, u2, u3]
        exact hM y h1 h2) (by rw [a4, h128]) a5 a6
      exact ⟨M', f1, a2.trans f2, f3⟩
    · have hc : ¬ (p < q ∧ gp_eW T l p q = true) := fun h => he h.2
      rw [if_pos (show (gz_shr (nI (gp_eT T l p (j + 1))) (nI q) &&& (1 : Int32)) = (0 : Int32) by rw [hbit]; simpa using he), gp_eL, nI_1]
      exact ih n (q + 1) M (by omega) (by omega) (by omega) hM h128 (by rw [gp_cs, if_neg hc, Nat.add_zero]; exact h129) (by rw [gp_mn, if_neg hc]; exact h130)
theorem gp_dn_0 (n : Nat) : gp_dn (n + 1) 0 = nI n := by rw [gp_dn_s (by omega)]; rfl
theorem gp_make16 (hw : gp_wT T) (hij : i ≤ j) (hj : j ≤ l.length) (hl24 : l.length ≤ 24) : ∀ (d n t : Nat) (M : gz_M), t + d = j + 1 - i → d < n → gp_tC 11 M T → gp_lC 9 M l → gp_spC M T l j (j + 1 - t) → ∃ M', f9_make_16 11 9 n (nI i) (nI j) (gp_dn (j + 1) t) M = some M' ∧ gp_wL M M' ∧ gp_spC M' T l j i := by
  intro d
  induction d with
  | zero =>
    intro n t M ht hn hC hL hS
    obtain ⟨n, rfl⟩ : ∃ q, n = q + 1 := ⟨n - 1, by omega⟩
    have hti : j + 1 - t = i := by omega
    rw [hti] at hS
    refine ⟨M, ?_, ⟨rfl, fun _ _ => rfl⟩, hS⟩
    rw [f9_make_16, if_pos]
    apply Int32.lt_iff_toInt_lt.mpr
    unfold gp_dn
    rw [hti, gp_pI (by omega), nI_toInt (by omega)]
    omega
  | succ d ih =>
    intro n t M ht hn hC hL hS
    obtain ⟨n, rfl⟩ : ∃ q, n = q + 1 := ⟨n - 1, by omega⟩
    obtain ⟨p, hp⟩ : ∃ p, p = j - t := ⟨_, rfl⟩
    have hdn : gp_dn (j + 1) t = nI p := by rw [gp_dn_s (by omega)]; congr 1; omega
    have hdn2 : nI p + (-1) = gp_dn (j + 1) (t + 1) := by rw [← hdn, gp_dn_n (by omega)]
    rw [show j + 1 - t = p + 1 by omega] at hS
    rw [f9_make_16, hdn, if_neg (nI_nlt (by omega) (by omega)), gp_endsFrom hw hC hL (show p ≤ j by omega) hj, gp_eB2, gp_ckb (by omega) (by omega), gp_eL, nI_clamp (by omega)]
    -- the last place, and those ahead of it
    by_cases hpj : p = j
    · rw [if_pos (by rw [hpj])]
      subst hpj
      unfold f9_make_56
      rw [gp_ckb (by omega) (by omega), gp_eL, if_pos rfl, gp_ckb (by omega) (by omega), gp_eL, gp_eL, nI_1, nI_clamp (by omega)]
      obtain ⟨n', hn'⟩ : ∃ q, gz_FU = q + 1 := ⟨999999, rfl⟩
      rw [hn', f9_make_82, if_pos (nI_lt (by omega) (by omega)), gp_eL, hdn2]
      have w0 : gp_wL M (gz_w (gz_w (gz_w M 128 p (nI (gp_eT T l p (p + 1)))) 129 p 1) 130 p 0) := ⟨rfl, fun c hc => by rw [gp_wc _ (by omega), gp_wc _ (by omega), gp_wc _ (by omega)]⟩
      obtain ⟨M', f1, f2, f3⟩ := ih n (t + 1) _ (by omega) (by omega) (hC.fr (fun c c1 c2 => w0.2 c (by omega))) (hL.fr (fun c c1 c2 => w0.2 c (by omega))) (fun y h1 h2 => by
        have : y = p := by omega
        subst this
        rw [gp_gn (by omega), gp_gn (by omega), gp_gs, gp_gn (by omega), gp_gs, gp_gs, gp_Cb_j, gp_Rb_j]
        exact ⟨rfl, rfl, rfl⟩)
      exact ⟨M', f1, w0.trans f2, f3⟩
    · rw [if_neg (fun e => hpj ((nI_eq (by omega) (by omega)).mp e))]
      unfold f9_make_56
      rw [gp_ckb (by omega) (by omega), gp_eL, if_neg (fun e => hpj ((nI_eq (by omega) (by omega)).mp e)), gp_ckb (by omega) (by omega), gp_eL, gp_eL, nI_1, nI_clamp (by omega)]
      have w0 : gp_wL M (gz_w (gz_w (gz_w M 128 p (nI (gp_eT T l p (j + 1)))) 129 p 0) 130 p (-1)) := ⟨rfl, fun c hc => by rw [gp_wc _ (by omega), gp_wc _ (by omega), gp_wc _ (by omega)]⟩
      obtain ⟨M1, g1, g2, g3⟩ := gp_make82 (T := T) (l := l) (k0 := 11) (k1 := 9) (show j ≤ 24 by omega) (show p < j by omega) (f9_make_16 11 9 n) (nI i) (j - p) gz_FU (p + 1) (gz_w (gz_w (gz_w M 128 p (nI (gp_eT T l p (j + 1)))) 129 p 0) 130 p (-1)) (by omega) (by unfold gz_FU; omega) (by omega) (fun y h1 h2 => by
        rw [gp_gn (by omega), gp_gn (by omega), gp_gn (by omega), gp_gn (by omega), gp_gn (by omega), gp_gn (by omega), gp_gn (by omega), gp_gn (by omega), gp_gn (by omega)]
        exact hS y h1 h2) (by rw [gp_gn (by omega), gp_gn (by omega), gp_gs]) (by rw [gp_gn (by omega), gp_gs, gp_cs_0 _ (by omega)]; rfl) (by rw [gp_gs, gp_mn_0 _ (by omega)]; rfl)
      rw [g1, hdn2]
      have w1 := w0.trans g2
      obtain ⟨M', f1, f2, f3⟩ := ih n (t + 1) M1 (by omega) (by omega) (hC.fr (fun c c1 c2 => w1.2 c (by omega))) (hL.fr (fun c c1 c2 => w1.2 c (by omega))) (by rw [show j + 1 - (t + 1) = p by omega]; exact g3)
      exact ⟨M', f1, w1.trans f2, f3⟩
theorem gp_make9 (hw : gp_wT T) (hij : i ≤ j) (hj : j ≤ l.length) (hC : gp_tC 11 M T) (hL : gp_lC 9 M l) : ∃ M', f9_make 11 9 (nI i) (nI j) M = some M' ∧ gp_wL M M' ∧ gp_spC M' T l j i := by
  have h24 := hL.1
  unfold f9_make
  rw [if_neg (nI_pos (by omega)), if_pos (by exact nI_le (show j ≤ 24 by omega) (by decide))]
  obtain ⟨M', f1, f2, f3⟩ := gp_make16 (i := i) (j := j) hw hij hj h24 (j + 1 - i) gz_FU 0 M (by omega) (by unfold gz_FU; omega) hC hL (fun y h1 h2 => absurd h1 (by omega))
  rw [gp_dn_0] at f1
  exact ⟨M', f1, f2, f3⟩
end
