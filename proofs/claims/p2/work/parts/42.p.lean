/-! a table of the reference -/
def gp_tR (M : gz_M) (T : gp_T) : Prop := M.1 0 10 = nI T.1 ∧ (∀ j, j < T.1 → M.1 5 j = nI (T.2.2 1 j) ∧ M.1 6 j = nI (T.2.2 2 j) ∧ M.1 7 j = nI (T.2.2 3 j) ∧ M.1 8 j = T.2.1 j ∧ M.1 9 j = nI (T.2.2 6 j) ∧ M.1 11 j = nI (T.2.2 5 j)) ∧ (∃ bg : Nat → Nat, (∀ j, j < T.1 → M.1 10 j = nI (bg j)) ∧ ∀ m, m < 4 → T.2.2 8 m = gp_orN (fun j => if T.2.2 1 j = m then bg j else 0) T.1) ∧ ∀ m, m < 4 → M.1 12 m = nI (T.2.2 7 m) ∧ ∀ x, x < T.2.2 7 m → M.1 14 (10 * m + x) = nI (T.2.2 (10 + m) x) ∧ ∃ c, c ≤ 8 ∧ M.1 13 (10 * m + x) = nI c ∧ ∀ s, s < 8 → (T.2.2 (15 + m) s).testBit x = (decide (c = 8) || decide (c = s))
section
variable {k m S s x : Nat} {M : gz_M} {T : gp_T}
theorem gp_lt10 {a : Nat} (hw : gp_wT T) (hm : m < 4) (h : a < 2 ^ T.2.2 7 m) : a < 2 ^ 10 := Nat.lt_of_lt_of_le h (Nat.pow_le_pow_right (by decide) (hw.2.2 m hm).1)
theorem gp_aft_lt (hw : gp_wT T) (hm : m < 4) (S : Nat) : gp_aft T m S < 2 ^ T.2.2 7 m := by
  refine gp_orN_lt (fun x hx => ?_)
  split
  · exact (hw.2.2 m hm).2.2.1 x hx
  · exact Nat.two_pow_pos _
theorem gp_st_lt (hw : gp_wT T) (hm : m < 4) (S s : Nat) : gp_st T m S s < 2 ^ T.2.2 7 m := Nat.lt_of_le_of_lt Nat.and_le_left (gp_aft_lt hw hm S)
theorem gp_st1_lt (hw : gp_wT T) (hm : m < 4) (s : Nat) : gp_st1 T m s < 2 ^ T.2.2 7 m := Nat.lt_of_le_of_lt Nat.and_le_left (hw.2.2 m hm).2.1
theorem gp_step108 (hw : gp_wT T) (h : gp_tR M T) (hm : m < 4) (hs : s < 8) (A : Nat) (hA : A < 2 ^ 10) : ∀ (d n x : Nat), x + d = T.2.2 7 m → d < n → f12_step_108 n (nI m) (nI s) (nI A) (nI (gp_orN (fun x => if (A &&& T.2.2 (15 + m) s).testBit x = true then 1 <<< x else 0) x)) (nI x) M = some (nI (gp_orN (fun x => if (A &&& T.2.2 (15 + m) s).testBit x = true then 1 <<< x else 0) (T.2.2 7 m)), M) := by
  have hu := (hw.2.2 m hm).1
  have h2 := h.2.2.2 m hm
  intro d
  induction d with
  | zero =>
    intro n x hx hn
    obtain ⟨n, rfl⟩ : ∃ q, n = q + 1 := ⟨n - 1, by omega⟩
    have hx : x = T.2.2 7 m := by omega
    subst hx
    rw [f12_step_108]
    simp (disch := omega) only [gp_ckb, nI_clamp, h2.1, gp_lee, Nat.le_refl, if_true]
  | succ d ih =>
    intro n x hx hn
    obtain ⟨n, rfl⟩ : ∃ q, n = q + 1 := ⟨n - 1, by omega⟩
    obtain ⟨_, c, hc, h3, h4⟩ := h2.2 x (by omega)
    have h4 := h4 s hs
    have e := ih n (x + 1) (by omega) (by omega)
    rw [gp_orN] at e
    rw [f12_step_108]
    have hl : ¬ T.2.2 7 m ≤ x := by omega
    rw [Nat.testBit_and, h4] at e
    simp (disch := omega) only [gp_n0, gp_n1, gp_n8, gp_n10, gp_lee, gp_bit1, gp_eL, gp_ckb, nI_clamp, h2.1, h3, gp_or, hl, if_false, pk_mul, nI_add, gp_shl1, gp_eqe]
    by_cases hb : A.testBit x = true
    · by_cases h8 : c = 8
      · simp [hb, h8] at e ⊢
        exact e
      · by_cases h9 : c = s
        · simp [hb, h8, h9] at e ⊢
          exact e
        · simp [hb, h8, h9] at e ⊢
          exact e
    · simp only [Bool.not_eq_true] at hb
      simp [hb] at e ⊢
      exact e
theorem gp_step108' (hw : gp_wT T) (h : gp_tR M T) (hm : m < 4) (hs : s < 8) (A : Nat) (hA : A < 2 ^ 10) : f12_step_108 gz_FU (nI m) (nI s) (nI A) 0 0 M = some (nI (A &&& T.2.2 (15 + m) s), M) := by
  have hu := (hw.2.2 m hm).1
  have e := gp_step108 hw h hm hs A hA (T.2.2 7 m) gz_FU 0 (by omega) (by unfold gz_FU; omega)
  have e2 : gp_orN (fun x => if (A &&& T.2.2 (15 + m) s).testBit x = true then 1 <<< x else 0) (T.2.2 7 m) = A &&& T.2.2 (15 + m) s := by
    apply Nat.eq_of_testBit_eq
    intro i
    rw [Bool.eq_iff_iff, gp_orN_bit]
    constructor
    · rintro ⟨j, h1, h2⟩
      split at h2
      · rename_i h3
        rw [Nat.one_shiftLeft, Nat.testBit_two_pow, decide_eq_true_iff] at h2
        subst h2
        exact h3
      · simp at h2
    · intro h1
      have h2 : i < T.2.2 7 m := by
        apply Classical.byContradiction
        intro hn
        have h3 : A &&& T.2.2 (15 + m) s < 2 ^ i := Nat.lt_of_lt_of_le (Nat.lt_of_le_of_lt Nat.and_le_right ((hw.2.2 m hm).2.2.2 s hs)) (Nat.pow_le_pow_right (by decide) (by omega))
        rw [Nat.testBit_lt_two_pow h3] at h1
        cases h1
      refine ⟨i, h2, ?_⟩
      simp [h1]
  rw [e2] at e
  exact e
theorem gp_step58 (hw : gp_wT T) (h : gp_tR M T) (hm : m < 4) (hs : s < 8) (hS : S < 2 ^ T.2.2 7 m) : ∀ (d n x : Nat), x + d = 10 → d < n → f12_step_58 n (nI m) (nI S) (nI s) (nI (gp_orN (fun x => if S.testBit x = true then T.2.2 (10 + m) x else 0) x)) (nI x) M = some (nI (gp_st T m S s), M) := by
  have hu := (hw.2.2 m hm).1
  have hS' := gp_lt10 hw hm hS
  have h2 := h.2.2.2 m hm
  intro d
  induction d with
  | zero =>
    intro n x hx hn
    obtain ⟨n, rfl⟩ : ∃ q, n = q + 1 := ⟨n - 1, by omega⟩
    have hx : x = 10 := by omega
    subst hx
    rw [f12_step_58, if_pos (by exact nI_le (Nat.le_refl 10) (by decide))]
    exact gp_step108' hw h hm hs _ (gp_lt10 hw hm (gp_aft_lt hw hm S))
  | succ d ih =>
    intro n x hx hn
    obtain ⟨n, rfl⟩ : ∃ q, n = q + 1 := ⟨n - 1, by omega⟩
    have e := ih n (x + 1) (by omega) (by omega)
    rw [f12_step_58]
    have hl : ¬ 10 ≤ x := by omega
    rw [gp_orN] at e
    simp (disch := omega) only [gp_n0, gp_n1, gp_n10, gp_lee, gp_bit1, gp_eL, nI_add, hl, if_false]
    by_cases hb : S.testBit x = true
    · have hx2 : x < T.2.2 7 m := by
        apply Classical.byContradiction
        intro hn
        rw [Nat.testBit_lt_two_pow (Nat.lt_of_lt_of_le hS (Nat.pow_le_pow_right (by decide) (by omega)))] at hb
        cases hb
      have h3 := (h2.2 x hx2).1
      simp only [hb, if_true] at e ⊢
      simp (disch := omega) only [pk_mul, nI_add, gp_ckb, nI_clamp, h3, gp_or]
      exact e
    · simp only [hb] at e ⊢
      simp (disch := omega) only [gp_or]
      exact e
theorem gp_step10 (hw : gp_wT T) (h : gp_tR M T) (hm : m < 4) (hs : s < 8) : f12_step_10 gz_FU (nI m) (nI s) 0 0 M = some (nI (gp_st1 T m s), M) := by
  have ht := hw.1
  obtain ⟨bg, h3, h4⟩ := h.2.2.1
  have h4 := h4 m hm
  have e : ∀ (d n x : Nat), x + d = T.1 → d < n → f12_step_10 n (nI m) (nI s) (nI (gp_orN (fun j => if T.2.2 1 j = m then bg j else 0) x)) (nI x) M = some (nI (gp_st1 T m s), M) := by
    intro d
    induction d with
    | zero =>
      intro n x hx hn
      obtain ⟨n, rfl⟩ : ∃ q, n = q + 1 := ⟨n - 1, by omega⟩
      have hx : x = T.1 := by omega
      subst hx
      rw [f12_step_10, h.1, if_pos (nI_le (Nat.le_refl _) (by omega)), ← h4]
      exact gp_step108' hw h hm hs _ (gp_lt10 hw hm (hw.2.2 m hm).2.1)
    | succ d ih =>
      intro n x hx hn
      obtain ⟨n, rfl⟩ : ∃ q, n = q + 1 := ⟨n - 1, by omega⟩
      have e := ih n (x + 1) (by omega) (by omega)
      rw [f12_step_10]
      have hl : ¬ T.1 ≤ x := by omega
      have h5 := h3 x (by omega)
      have h6 := h.2.1 x (by omega)
      have h7 := hw.2.1 x (by omega)
      rw [gp_orN] at e
      simp (disch := omega) only [gp_n0, gp_n1, gp_lee, gp_eL, nI_add, hl, if_false, h.1, gp_ckb, nI_clamp, h5, h6, gp_eqe, gp_or]
      by_cases hb : T.2.2 1 x = m
      · simp only [hb, if_true] at e ⊢
        exact e
      · simp only [hb, if_false] at e ⊢
        exact e
  exact e T.1 gz_FU 0 (by omega) (by unfold gz_FU; omega)
theorem gp_stepR1 (hw : gp_wT T) (h : gp_tR M T) (hm : m < 4) (hs : s < 8) (S : Int32) : f12_step (nI m) S 1 (nI s) M = some (nI (gp_st1 T m s), M) := by
  unfold f12_step
  rw [if_neg (by decide)]
  exact gp_step10 hw h hm hs
theorem gp_stepR (hw : gp_wT T) (h : gp_tR M T) (hm : m < 4) (hs : s < 8) (hS : S < 2 ^ T.2.2 7 m) : f12_step (nI m) (nI S) 0 (nI s) M = some (nI (gp_st T m S s), M) := by
  unfold f12_step
  rw [if_pos rfl]
  exact gp_step58 hw h hm hs hS 10 gz_FU 0 (by omega) (by unfold gz_FU; omega)
theorem gp_winR_2 (hw : gp_wT T) (h : gp_tR M T) (hm : m < 4) (hS : S < 2 ^ 10) : ∀ (d n x : Nat), x + d = T.1 → d < n → f12_winner_2 n (nI m) (nI S) (nI x) M = some (gp_o (gp_fst (fun j => decide (T.2.2 1 j = m ∧ T.2.2 5 j &&& S ≠ 0)) d x), M) := by
  have ht := hw.1
  intro d
  induction d with
  | zero =>
    intro n x hx hn
    obtain ⟨n, rfl⟩ : ∃ q, n = q + 1 := ⟨n - 1, by omega⟩
    have hx : x = T.1 := by omega
    subst hx
    rw [f12_winner_2]
    simp (disch := omega) only [h.1, gp_lee, Nat.le_refl, if_true]
    rfl
  | succ d ih =>
    intro n x hx hn
    obtain ⟨n, rfl⟩ : ∃ q, n = q + 1 := ⟨n - 1, by omega⟩
    have h1 := h.2.1 x (by omega)
    have h2 := hw.2.1 x (by omega)
    have h3 : T.2.2 5 x &&& S < 2 ^ 10 := Nat.lt_of_le_of_lt Nat.and_le_right hS
    have e := ih n (x + 1) (by omega) (by omega)
    have hl : ¬ T.1 ≤ x := by omega
    rw [f12_winner_2, gp_fst]
    simp (disch := omega) only [gp_n0, gp_n1, gp_lee, gp_eL, nI_add, gp_ckb, nI_clamp, h.1, h1, gp_and, gp_eqe, hl, if_false, e]
    by_cases ha : T.2.2 1 x = m
    · by_cases hb : T.2.2 5 x &&& S = 0
      · simp [ha, hb]
      · simp [ha, hb, gp_o]
    · simp [ha]
theorem gp_winR (hw : gp_wT T) (h : gp_tR M T) (hm : m < 4) (hS : S < 2 ^ 10) : f12_winner (nI m) (nI S) M = some (gp_o (gp_win T m S), M) := by
  have ht := hw.1
  unfold f12_winner gp_win
  exact gp_winR_2 hw h hm hS T.1 _ 0 (by omega) (by unfold gz_FU; omega)
end
