/-! the model: tables of rules. How many; digits; all else by cell and place (1 mode, 2 letters, 3 act, 5 last, 6 empty of a rule; 7 used, 8 opening of a mode; 10 + m follow; 15 + m takers) -/
abbrev gp_T : Type := Nat × (Nat → Int32) × (Nat → Nat → Nat)
def gp_wT (T : gp_T) : Prop := T.1 ≤ 8 ∧ (∀ j, j < T.1 → T.2.2 1 j < 4 ∧ T.2.2 2 j ≤ 80 ∧ T.2.2 3 j < 4 ∧ T.2.2 5 j < 2 ^ T.2.2 7 (T.2.2 1 j) ∧ T.2.2 6 j < 2 ∧ (2 ≤ T.2.2 3 j → ∃ d, d < 4 ∧ T.2.1 j = nI d)) ∧ ∀ m, m < 4 → T.2.2 7 m ≤ 10 ∧ T.2.2 8 m < 2 ^ T.2.2 7 m ∧ (∀ x, x < 10 → T.2.2 (10 + m) x < 2 ^ T.2.2 7 m) ∧ ∀ s, s < 8 → T.2.2 (15 + m) s < 2 ^ T.2.2 7 m
/-- the letters behind some -/
def gp_aft (T : gp_T) (m S : Nat) : Nat := gp_orN (fun x => if S.testBit x = true then T.2.2 (10 + m) x else 0) 10
def gp_st1 (T : gp_T) (m s : Nat) : Nat := T.2.2 8 m &&& T.2.2 (15 + m) s
def gp_st (T : gp_T) (m S s : Nat) : Nat := gp_aft T m S &&& T.2.2 (15 + m) s
def gp_win (T : gp_T) (m S : Nat) : Option Nat := gp_fst (fun j => decide (T.2.2 1 j = m ∧ T.2.2 5 j &&& S ≠ 0)) T.1 0
/-- a table of the component, at cell k -/
def gp_tC (k : Nat) (M : gz_M) (T : gp_T) : Prop := M.1 k 0 = nI T.1 ∧ (∀ j, j < T.1 → M.1 (k + 1) j = nI (T.2.2 1 j) ∧ M.1 (k + 2) j = nI (T.2.2 2 j) ∧ M.1 (k + 3) j = nI (T.2.2 3 j) ∧ M.1 (k + 4) j = T.2.1 j ∧ M.1 (k + 5) j = nI (T.2.2 5 j) ∧ M.1 (k + 6) j = nI (T.2.2 6 j)) ∧ ∀ m, m < 4 → M.1 (k + 7) m = nI (T.2.2 7 m) ∧ M.1 (k + 8) m = nI (T.2.2 8 m) ∧ (∀ x, x < 10 → M.1 (k + 9 + 1 + m) x = nI (T.2.2 (10 + m) x)) ∧ ∀ s, s < 8 → M.1 (k + 14 + 1 + m) s = nI (T.2.2 (15 + m) s)
section
variable {k m S s x : Nat} {M : gz_M} {T : gp_T}
theorem gp_isMode (h : m < 4) : f11_isMode (nI m) M = some (1, M) := by
  unfold f11_isMode
  rw [if_neg, if_neg]
  · exact nI_ge h (by decide)
  · exact nI_pos (by omega)
theorem gp_after_12 (h : gp_tC k M T) (hm : m < 4) (hS : S < 2 ^ 10) : ∀ (d n x : Nat), x + d = 10 → d < n → f7_after_12 k n (nI m) (nI S) (nI (gp_orN (fun x => if S.testBit x = true then T.2.2 (10 + m) x else 0) x)) (nI x) M = some (nI (gp_aft T m S), M) := by
  intro d
  induction d with
  | zero =>
    intro n x hx hn
    obtain ⟨n, rfl⟩ : ∃ q, n = q + 1 := ⟨n - 1, by omega⟩
    have hx : x = 10 := by omega
    subst hx
    rw [f7_after_12, if_pos (by exact nI_le (Nat.le_refl 10) (by decide))]
    rfl
  | succ d ih =>
    intro n x hx hn
    obtain ⟨n, rfl⟩ : ∃ q, n = q + 1 := ⟨n - 1, by omega⟩
    have h1 := (h.2.2 m hm).2.2.1 x (by omega)
    have e := ih n (x + 1) (by omega) (by omega)
    rw [f7_after_12]
    simp (disch := omega) only [gp_n0, gp_n1, gp_n10, gp_lee, gp_bit, gp_eL, nI_add, gp_ckb, nI_clamp, h1, gp_or, if_neg]
    rw [gp_orN] at e
    by_cases hb : S.testBit x = true
    · simp only [hb, Bool.true_eq_false, if_false, if_true] at e ⊢
      exact e
    · simp only [Bool.not_eq_true] at hb
      simp only [hb, Bool.false_eq_true, if_false, if_true] at e ⊢
      exact e
theorem gp_after (h : gp_tC k M T) (hm : m < 4) (hS : S < 2 ^ 10) : f7_after k (nI m) (nI S) M = some (nI (gp_aft T m S), M) := by
  unfold f7_after
  rw [gp_isMode hm, gp_eB2, if_neg (by decide)]
  exact gp_after_12 h hm hS 10 _ 0 rfl (by unfold gz_FU; omega)
theorem gp_win_2 (hw : gp_wT T) (h : gp_tC k M T) (hm : m < 4) (hS : S < 2 ^ 10) : ∀ (d n x : Nat), x + d = T.1 → d < n → f7_winner_2 k n (nI m) (nI S) (nI x) M = some (gp_o (gp_fst (fun j => decide (T.2.2 1 j = m ∧ T.2.2 5 j &&& S ≠ 0)) d x), M) := by
  have ht := hw.1
  intro d
  induction d with
  | zero =>
    intro n x hx hn
    obtain ⟨n, rfl⟩ : ∃ q, n = q + 1 := ⟨n - 1, by omega⟩
    have hx : x = T.1 := by omega
    subst hx
    rw [f7_winner_2]
    simp (disch := omega) only [h.1, gp_lee, Nat.le_refl, if_true]
    rfl
  | succ d ih =>
    intro n x hx hn
    obtain ⟨n, rfl⟩ : ∃ q, n = q + 1 := ⟨n - 1, by omega⟩
    have h1 := h.2.1 x (by omega)
    have h2 := hw.2.1 x (by omega)
    have h3 : T.2.2 5 x &&& S < 2 ^ 10 := Nat.lt_of_le_of_lt Nat.and_le_right hS
    have e := ih n (x + 1) (by omega) (by omega)
    have hl : ¬ T.1 ≤ x := by omega
    rw [f7_winner_2, gp_fst]
    simp (disch := omega) only [gp_n0, gp_n1, gp_lee, gp_eL, nI_add, gp_ckb, nI_clamp, h.1, h1, gp_and, gp_eqe, hl, if_false, e]
    by_cases ha : T.2.2 1 x = m
    · by_cases hb : T.2.2 5 x &&& S = 0
      · simp [ha, hb]
      · simp [ha, hb, gp_o]
    · simp [ha]
theorem gp_winner (hw : gp_wT T) (h : gp_tC k M T) (hm : m < 4) (hS : S < 2 ^ 10) : f7_winner k (nI m) (nI S) M = some (gp_o (gp_win T m S), M) := by
  have ht := hw.1
  unfold f7_winner gp_win
  exact gp_win_2 hw h hm hS T.1 _ 0 (by omega) (by unfold gz_FU; omega)
theorem gp_atFirst (h : gp_tC k M T) (hm : m < 4) : f7_atFirst k (nI m) M = some (nI (T.2.2 8 m), M) := by
  unfold f7_atFirst
  rw [gp_isMode hm, gp_eB2, if_neg (by decide), gp_ckb hm (by omega), nI_clamp (by omega), (h.2.2 m hm).2.1]
theorem gp_takersOf (h : gp_tC k M T) (hm : m < 4) (hs : s < 8) : f7_takersOf k (nI m) (nI s) M = some (nI (T.2.2 (15 + m) s), M) := by
  unfold f7_takersOf
  rw [gp_isMode hm, gp_eB2, if_neg (by decide), if_neg (nI_pos (by omega)), if_neg (by exact nI_ge hs (by decide)), gp_ckb hm (by omega), gp_ckb hs (by omega), nI_clamp (by omega), nI_clamp (by omega), (h.2.2 m hm).2.2.2 s hs]
end
