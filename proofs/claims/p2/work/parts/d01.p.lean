/-! cutting with memory: what failed once fails again -/
section
variable {T : gp_T} {m : Nat} {F : Nat → Nat → Bool} {l : List Nat}
/-- a winner ahead is told, but does no more -/
theorem gq_rmE : ∀ (L : List Nat) (q nx : Nat) (r : Option Nat) (b : Nat), (gp_rm T m gp_F0 L q nx r b).1 = (gp_rm T m gp_F0 L q nx none 0).1.or r ∧ (gp_rm T m gp_F0 L q nx r b).2.1 = if (gp_rm T m gp_F0 L q nx none 0).1.isSome = true then (gp_rm T m gp_F0 L q nx none 0).2.1 else b
  | [], q, nx, r, b => ⟨rfl, rfl⟩
  | s :: L, q, nx, r, b => by
    rw [gp_rm, gp_rm]
    by_cases h0 : nx &&& T.2.2 (15 + m) s = 0
    · rw [if_pos h0, if_pos h0]
      exact ⟨rfl, rfl⟩
    · rw [if_neg h0, if_neg (gq_F0 _ _), if_neg h0, if_neg (gq_F0 _ _)]
      obtain ⟨a1, a2⟩ := gq_rmE L (q + 1) (gp_aft T m (nx &&& T.2.2 (15 + m) s)) ((gp_win T m (nx &&& T.2.2 (15 + m) s)).or r) (if (gp_win T m (nx &&& T.2.2 (15 + m) s)).isSome = true then q + 1 else b)
      obtain ⟨b1, b2⟩ := gq_rmE L (q + 1) (gp_aft T m (nx &&& T.2.2 (15 + m) s)) ((gp_win T m (nx &&& T.2.2 (15 + m) s)).or none) (if (gp_win T m (nx &&& T.2.2 (15 + m) s)).isSome = true then q + 1 else 0)
      dsimp only
      rw [a1, a2, b1, b2]
      cases gp_win T m (nx &&& T.2.2 (15 + m) s) <;> cases (gp_rm T m gp_F0 L (q + 1) (gp_aft T m (nx &&& T.2.2 (15 + m) s)) none 0).1 <;> exact ⟨rfl, rfl⟩
/-- no winner from a standing on -/
def gq_nw (T : gp_T) (l : List Nat) (m S p : Nat) : Prop := (gp_rm T m gp_F0 (l.drop p) p (gp_aft T m S) none 0).1 = none
theorem gq_same (hF : ∀ S p, F S p = true → gq_nw T l m S p) : ∀ (L : List Nat) (q nx : Nat) (r : Option Nat) (b : Nat), L = l.drop q → (gp_rm T m F L q nx r b).1 = (gp_rm T m gp_F0 L q nx r b).1 ∧ (gp_rm T m F L q nx r b).2.1 = (gp_rm T m gp_F0 L q nx r b).2.1
  | [], q, nx, r, b, _ => ⟨rfl, rfl⟩
  | s :: L, q, nx, r, b, hL => by
    have hL1 : L = l.drop (q + 1) := by
      have := congrArg (List.drop 1) hL
      rwa [List.drop_succ_cons, List.drop_zero, List.drop_drop] at this
    rw [gp_rm, gp_rm]
    by_cases h0 : nx &&& T.2.2 (15 + m) s = 0
    · rw [if_pos h0, if_pos h0]
      exact ⟨rfl, rfl⟩
    · rw [if_neg h0, if_neg h0, if_neg (gq_F0 _ _)]
      by_cases hf : F (nx &&& T.2.2 (15 + m) s) (q + 1) = true
      · have hn := hF _ _ hf
        unfold gq_nw at hn
        rw [← hL1] at hn
        obtain ⟨a1, a2⟩ := gq_rmE (T := T) (m := m) L (q + 1) (gp_aft T m (nx &&& T.2.2 (15 + m) s)) ((gp_win T m (nx &&& T.2.2 (15 + m) s)).or r) (if (gp_win T m (nx &&& T.2.2 (15 + m) s)).isSome = true then q + 1 else b)
        rw [if_pos hf]
        dsimp only
        rw [a1, a2, hn]
        exact ⟨rfl, rfl⟩
      · rw [if_neg hf]
        exact gq_same hF L (q + 1) _ _ _ hL1
/-- what is come to behind the last winner leads to none -/
theorem gq_mark (hF : ∀ S p, F S p = true → gq_nw T l m S p) : ∀ (L : List Nat) (q nx : Nat) (r : Option Nat) (b : Nat), L = l.drop q → ∀ i, i < (gp_rm T m F L q nx r b).2.2.2.2.length → ((gp_rm T m F L q nx r b).1 = none ∨ (gp_rm T m F L q nx r b).2.1 < q + 1 + i) → gq_nw T l m ((gp_rm T m F L q nx r b).2.2.2.2.getD i 0) (q + 1 + i)
  | [], q, nx, r, b, _, i, hi, _ => absurd hi (by simp [gp_rm])
  | s :: L, q, nx, r, b, hL, i, hi, hw => by
    have hL1 : L = l.drop (q + 1) := by
      have := congrArg (List.drop 1) hL
      rwa [List.drop_succ_cons, List.drop_zero, List.drop_drop] at this
    rw [gp_rm] at hi hw ⊢
    by_cases h0 : nx &&& T.2.2 (15 + m) s = 0
    · rw [if_pos h0] at hi
      exact absurd hi (by simp)
    · rw [if_neg h0] at hi hw ⊢
      by_cases hf : F (nx &&& T.2.2 (15 + m) s) (q + 1) = true
      · rw [if_pos hf] at hi ⊢
        have : i = 0 := by simpa using hi
        subst this
        exact hF _ _ hf
      · rw [if_neg hf] at hi hw ⊢
        dsimp only at hi hw ⊢
        cases i with
        | zero =>
          obtain ⟨s1, s2⟩ := gq_same hF L (q + 1) (gp_aft T m (nx &&& T.2.2 (15 + m) s)) ((gp_win T m (nx &&& T.2.2 (15 + m) s)).or r) (if (gp_win T m (nx &&& T.2.2 (15 + m) s)).isSome = true then q + 1 else b) hL1
          obtain ⟨a1, a2⟩ := gq_rmE (T := T) (m := m) L (q + 1) (gp_aft T m (nx &&& T.2.2 (15 + m) s)) ((gp_win T m (nx &&& T.2.2 (15 + m) s)).or r) (if (gp_win T m (nx &&& T.2.2 (15 + m) s)).isSome = true then q + 1 else b)
          rw [s1, s2, a1, a2] at hw
          show (gp_rm T m gp_F0 (l.drop (q + 1)) (q + 1) (gp_aft T m (nx &&& T.2.2 (15 + m) s)) none 0).1 = none
          rw [← hL1]
          cases hZ : (gp_rm T m gp_F0 L (q + 1) (gp_aft T m (nx &&& T.2.2 (15 + m) s)) none 0).1 with
          | none => rfl
          | some k =>
            exfalso
            rw [hZ] at hw
            have hge : ∀ (L : List Nat) (q nx : Nat) (r : Option Nat) (b : Nat), ((gp_rm T m gp_F0 L q nx r b).1 = r ∧ (gp_rm T m gp_F0 L q nx r b).2.1 = b) ∨ q < (gp_rm T m gp_F0 L q nx r b).2.1 := by
              intro L
              induction L with
              | nil => intro q nx r b; exact Or.inl ⟨rfl, rfl⟩
              | cons s L ih =>
                intro q nx r b
                rw [gp_rm]
                by_cases h0 : nx &&& T.2.2 (15 + m) s = 0
                · rw [if_pos h0]
                  exact Or.inl ⟨rfl, rfl⟩
                · rw [if_neg h0, if_neg (gq_F0 _ _)]
                  dsimp only
                  rcases ih (q + 1) (gp_aft T m (nx &&& T.2.2 (15 + m) s)) ((gp_win T m (nx &&& T.2.2 (15 + m) s)).or r) (if (gp_win T m (nx &&& T.2.2 (15 + m) s)).isSome = true then q + 1 else b) with ⟨g1, g2⟩ | g
                  · rw [g1, g2]
                    cases gp_win T m (nx &&& T.2.2 (15 + m) s) with
                    | none => exact Or.inl ⟨rfl, rfl⟩
                    | some k => right; show q < q + 1; omega
                  · right; omega
            rcases hge L (q + 1) (gp_aft T m (nx &&& T.2.2 (15 + m) s)) none 0 with ⟨g1, _⟩ | g
            · rw [hZ] at g1; cases g1
            · rcases hw with hw | hw
              · cases hw
              · rw [if_pos (show (some k : Option Nat).isSome = true from rfl)] at hw
                omega
        | succ i =>
          have := gq_mark hF L (q + 1) (gp_aft T m (nx &&& T.2.2 (15 + m) s)) ((gp_win T m (nx &&& T.2.2 (15 + m) s)).or r) (if (gp_win T m (nx &&& T.2.2 (15 + m) s)).isSome = true then q + 1 else b) hL1 i (by simpa using hi) (hw.imp id (fun hw => by omega))
          rw [show q + 1 + (i + 1) = q + 1 + 1 + i by omega]
          simpa [List.getD] using this
/-- the pairs that a token comes to, with places -/
theorem gq_codes_mem {m y : Nat} : ∀ (L : List Nat) (p : Nat), y ∈ gp_codes m L p ↔ ∃ i, i < L.length ∧ y = gp_code m (L.getD i 0) (p + 1 + i)
  | [], p => by simp [gp_codes]
  | S :: L, p => by
    rw [gp_codes, List.mem_cons, gq_codes_mem L (p + 1)]
    constructor
    · rintro (h | ⟨i, h1, h2⟩)
      · exact ⟨0, by simp, h⟩
      · exact ⟨i + 1, by simp; omega, by rw [h2, show p + 1 + 1 + i = p + 1 + (i + 1) by omega]; simp [List.getD]⟩
    · rintro ⟨i, h1, h2⟩
      cases i with
      | zero => exact Or.inl h2
      | succ i => exact Or.inr ⟨i, by simpa using h1, by rw [h2, show p + 1 + (i + 1) = p + 1 + 1 + i by omega]; simp [List.getD]⟩
theorem gq_code_inj {m m' S S' p p' : Nat} (hS : S < 1024) (hS' : S' < 1024) (hp : p < 25) (hp' : p' < 25) (h : gp_code m S p = gp_code m' S' p') : m = m' ∧ S = S' ∧ p = p' := by
  unfold gp_code at h
  omega
end
