/-! the bound of the rows: words cut where earlier rules' letters stand alike
-/
section
variable {T : gp_T} {m S S' S1 S2 k x y s : Nat} {own : Nat → Nat → Nat}
/-- the letters of rules before k stand alike -/
def gq_agr (own : Nat → Nat → Nat) (m k S S' : Nat) : Prop := ∀ y, own m y < k → (S.testBit y = true ↔ S'.testBit y = true)
def gq_inc (S S' : Nat) : Prop := ∀ y, S.testBit y = true → S'.testBit y = true
theorem gq_incr (T : gp_T) (m : Nat) : ∀ (w : List Nat) {S S' : Nat}, gq_inc S S' → gq_inc (gq_run T m S w) (gq_run T m S' w)
  | [], _, _, h => h
  | s :: w, S, S', h => by
    have h1 : gq_inc (gp_aft T m S &&& T.2.2 (15 + m) s) (gp_aft T m S' &&& T.2.2 (15 + m) s) := fun y hy => by
      rw [Nat.testBit_and, Bool.and_eq_true] at hy ⊢
      obtain ⟨x, h1, h2, h3⟩ := gq_aftB.mp hy.1
      exact ⟨gq_aftB.mpr ⟨x, h1, h x h2, h3⟩, hy.2⟩
    exact gq_incr T m w h1
theorem gq_agr.run (ho : gq_oT own T) (hm : m < 4) : ∀ (w : List Nat) {S S' : Nat}, gq_agr own m k S S' → gq_agr own m k (gq_run T m S w) (gq_run T m S' w)
  | [], _, _, h => h
  | s :: w, S, S', h => by
    have one : ∀ {A B : Nat}, gq_agr own m k A B → ∀ y, own m y < k → (gp_aft T m A).testBit y = true → (gp_aft T m B).testBit y = true := fun {A B} g y hy h1 => by
      obtain ⟨x, a1, a2, a3⟩ := gq_aftB.mp h1
      have := ho.1 m hm x a1 y a3
      exact gq_aftB.mpr ⟨x, a1, (g x (by rw [← this]; exact hy)).mp a2, a3⟩
    have sy : gq_agr own m k S' S := fun y hy => (h y hy).symm
    have h1 : gq_agr own m k (gp_aft T m S &&& T.2.2 (15 + m) s) (gp_aft T m S' &&& T.2.2 (15 + m) s) := fun y hy => by
      rw [Nat.testBit_and, Nat.testBit_and, Bool.and_eq_true, Bool.and_eq_true]
      exact ⟨fun g => ⟨one h y hy g.1, g.2⟩, fun g => ⟨one sy y hy g.1, g.2⟩⟩
    exact gq_agr.run ho hm w h1
theorem gq_win : gp_win T m S = some k ↔ k < T.1 ∧ T.2.2 1 k = m ∧ T.2.2 5 k &&& S ≠ 0 ∧ ∀ j, j < k → T.2.2 1 j = m → T.2.2 5 j &&& S = 0 := by
  have key : ∀ (P : Nat → Bool) (n a : Nat), gp_fst P n a = some k ↔ a ≤ k ∧ k < a + n ∧ P k = true ∧ ∀ j, a ≤ j → j < k → P j = false := by
    intro P n
    induction n with
    | zero => intro a; exact ⟨fun h => (by cases h), fun h => absurd h.2.1 (by omega)⟩
    | succ n ih =>
      intro a
      rw [gp_fst]
      by_cases h : P a = true
      · rw [if_pos h]
        constructor
        · intro e; cases e
          exact ⟨Nat.le_refl _, by omega, h, fun j h1 h2 => absurd h1 (by omega)⟩
        · intro e
          by_cases g : a = k
          · rw [g]
          · have := e.2.2.2 a (Nat.le_refl _) (by omega)
            rw [h] at this; cases this
      · rw [if_neg h, ih]
        constructor
        · rintro ⟨h1, h2, h3, h4⟩
          refine ⟨by omega, by omega, h3, fun j g1 g2 => ?_⟩
          by_cases g : j = a
          · rw [g]; cases e : P a with
            | false => rfl
            | true => exact absurd e h
          · exact h4 j (by omega) g2
        · rintro ⟨h1, h2, h3, h4⟩
          have : a ≠ k := fun e => h (by rw [e]; exact h3)
          exact ⟨by omega, by omega, h3, fun j g1 g2 => h4 j (by omega) g2⟩
  unfold gp_win
  rw [key]
  constructor
  · rintro ⟨h1, h2, h3, h4⟩
    have h3 := of_decide_eq_true h3
    refine ⟨by omega, h3.1, h3.2, fun j g1 g2 => Classical.byContradiction fun g => ?_⟩
    have := of_decide_eq_false (h4 j (Nat.zero_le _) g1)
    exact this ⟨g2, g⟩
  · rintro ⟨h1, h2, h3, h4⟩
    exact ⟨Nat.zero_le _, by omega, decide_eq_true ⟨h2, h3⟩, fun j _ g => decide_eq_false fun e => e.2 (h4 j g e.1)⟩
/-- a word may go on from a like place: the same letter of k, the earlier rules' letters alike -/
theorem gq_cutw (ho : gq_oT own T) (hm : m < 4) {C : List Nat} (ha : gq_agr own m k S1 S2) (hx : gq_inc (1 <<< x) S1) (hy : (gq_run T m (1 <<< x) C).testBit y = true) (he : (T.2.2 5 k).testBit y = true) (hwin : gp_win T m (gq_run T m S2 C) = some k) : gp_win T m (gq_run T m S1 C) = some k := by
  obtain ⟨h1, h2, h3, h4⟩ := gq_win.mp hwin
  refine gq_win.mpr ⟨h1, h2, fun g => ?_, fun j hj hmj => ?_⟩
  · have := congrArg (fun n => Nat.testBit n y) g
    simp only [Nat.testBit_and, he, gq_incr T m C hx y hy, Nat.zero_testBit] at this
    exact absurd this (by decide)
  · have z := h4 j hj hmj
    refine Nat.eq_of_testBit_eq fun i => ?_
    rw [Nat.zero_testBit, Nat.testBit_and]
    cases e5 : (T.2.2 5 j).testBit i with
    | false => rfl
    | true =>
      have oj := ho.2 j (by omega) i e5
      rw [hmj] at oj
      have := congrArg (fun n => Nat.testBit n i) z
      simp only [Nat.testBit_and, e5, Bool.true_and, Nat.zero_testBit] at this
      rw [Bool.true_and]
      cases e : (gq_run T m S1 C).testBit i with
      | false => rfl
      | true =>
        have := (gq_agr.run ho hm C ha i (by omega)).mp e
        simp_all
end
