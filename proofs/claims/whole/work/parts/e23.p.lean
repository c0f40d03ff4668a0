/-! the bound of the rows: one side is enough: fewer earlier letters never hurt -/
section
variable {T : gp_T} {m k x y S1 S2 : Nat} {own : Nat → Nat → Nat}
def gq_low (own : Nat → Nat → Nat) (m k S S' : Nat) : Prop := ∀ y, own m y < k → S.testBit y = true → S'.testBit y = true
theorem gq_low.run (ho : gq_oT own T) (hm : m < 4) : ∀ (w : List Nat) {S S' : Nat}, gq_low own m k S S' → gq_low own m k (gq_run T m S w) (gq_run T m S' w)
  | [], _, _, h => h
  | s :: w, S, S', h => by
    have h1 : gq_low own m k (gp_aft T m S &&& T.2.2 (15 + m) s) (gp_aft T m S' &&& T.2.2 (15 + m) s) := fun y hy g => by
      rw [Nat.testBit_and, Bool.and_eq_true] at g ⊢
      obtain ⟨x, a1, a2, a3⟩ := gq_aftB.mp g.1
      have := ho.1 m hm x a1 y a3
      exact ⟨gq_aftB.mpr ⟨x, a1, h x (by rw [← this]; exact hy) a2, a3⟩, g.2⟩
    exact gq_low.run ho hm w h1
theorem gq_cutl (ho : gq_oT own T) (hm : m < 4) {C : List Nat} (ha : gq_low own m k S1 S2) (hx : gq_inc (1 <<< x) S1) (hy : (gq_run T m (1 <<< x) C).testBit y = true) (he : (T.2.2 5 k).testBit y = true) (hwin : gp_win T m (gq_run T m S2 C) = some k) : gp_win T m (gq_run T m S1 C) = some k := by
  obtain ⟨h1, h2, h3, h4⟩ := gq_win.mp hwin
  refine gq_win.mpr ⟨h1, h2, fun g => ?_, fun j hj hmj => ?_⟩
  · have := congrArg (fun n => Nat.testBit n y) g
    simp only [Nat.testBit_and, he, gq_incr T m C hx y hy, Nat.zero_testBit] at this
    exact absurd this (by decide)
  · have z := h4 j hj hmj
    refine Nat.eq_of_testBit_eq fun i => ?_
    rw [Nat.zero_testBit, Nat.testBit_and]
    cases e5 : (T.2.2 5 j).testBit i with
    | false => rfl
    | true =>
      have oj := ho.2 j (by omega) i e5
      rw [hmj] at oj
      have := congrArg (fun n => Nat.testBit n i) z
      simp only [Nat.testBit_and, e5, Bool.true_and, Nat.zero_testBit] at this
      rw [Bool.true_and]
      cases e : (gq_run T m S1 C).testBit i with
      | false => rfl
      | true =>
        have := gq_low.run ho hm C ha i (by omega) e
        simp_all
end
