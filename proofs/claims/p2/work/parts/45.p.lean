/-! facts of reading -/
section
variable {k k0 k1 m S s x p q : Nat} {M M' : gz_M} {T : gp_T} {l : List Nat} {F : Nat → Nat → Bool}
theorem gp_rm_f : ∀ (L : List Nat) (q nx : Nat) (r : Option Nat) (b : Nat), (r.isSome = true → b ≤ q) → (∀ j, r = some j → j < T.1) →
    q ≤ (gp_rm T m F L q nx r b).2.2.1 ∧ (gp_rm T m F L q nx r b).2.2.1 ≤ q + L.length ∧ (L ≠ [] → q < (gp_rm T m F L q nx r b).2.2.1) ∧ ((gp_rm T m F L q nx r b).1.isSome = true → (gp_rm T m F L q nx r b).2.1 ≤ (gp_rm T m F L q nx r b).2.2.1) ∧ (r = none → (gp_rm T m F L q nx r b).1.isSome = true → q < (gp_rm T m F L q nx r b).2.1) ∧ (∀ j, (gp_rm T m F L q nx r b).1 = some j → j < T.1) ∧ (∀ x, (gp_rm T m F L q nx r b).2.2.2.1 = some x → (gp_rm T m F L q nx r b).2.2.1 = x + 1 ∧ q ≤ x) ∧ (gp_rm T m F L q nx r b).2.2.2.2.length + q + (if (gp_rm T m F L q nx r b).2.2.2.1.isSome = true then 1 else 0) = (gp_rm T m F L q nx r b).2.2.1 ∧ (r.isSome = true → b ≤ (gp_rm T m F L q nx r b).2.1 ∧ (gp_rm T m F L q nx r b).1.isSome = true)
  | [], q, nx, r, b, h1, h2 => by
    simp only [gp_rm]
    refine ⟨by omega, by simp, by simp, h1, fun h3 h4 => ?_, h2, by simp, by simp, fun h => ⟨by omega, h⟩⟩
    rw [h3] at h4
    simp at h4
  | s :: L, q, nx, r, b, h1, h2 => by
    rw [gp_rm]
    split
    · refine ⟨by simp, (by simp <;> omega), by simp, fun h => (by have := h1 h; simp <;> omega), fun h3 h4 => ?_, h2, ?_, (by simp <;> omega), fun h => ⟨by simp, h⟩⟩
      · rw [h3] at h4
        simp at h4
      · intro x hx
        simp at hx ⊢
        omega
    · have hor : ∀ j, (gp_win T m (nx &&& T.2.2 (15 + m) s)).or r = some j → j < T.1 := by
        intro j hj
        cases e : gp_win T m (nx &&& T.2.2 (15 + m) s) with
        | none => rw [e] at hj; exact h2 j hj
        | some i =>
          rw [e] at hj
          simp at hj
          subst hj
          exact (gp_win_some e).1
      split
      · refine ⟨by simp, (by simp <;> omega), by simp, fun h => ?_, fun h3 h4 => ?_, hor, by simp, (by simp <;> omega), fun h => ?_⟩
        · dsimp only at h ⊢
          split
          · omega
          · rename_i h5
            simp only [Bool.not_eq_true, Option.isSome_eq_false_iff, Option.isNone_iff_eq_none] at h5
            rw [h5] at h
            have := h1 h
            omega
        · dsimp only at h4 ⊢
          rw [h3] at h4
          simp at h4
          rw [if_pos h4]
          omega
        · dsimp only
          have h6 := h1 h
          refine ⟨by split <;> omega, ?_⟩
          simp [h]
      · obtain ⟨a1, a2, a3, a4, a5, a6, a7, a8, a9⟩ := gp_rm_f L (q + 1) (gp_aft T m (nx &&& T.2.2 (15 + m) s)) ((gp_win T m (nx &&& T.2.2 (15 + m) s)).or r) (if (gp_win T m (nx &&& T.2.2 (15 + m) s)).isSome = true then q + 1 else b) (by
          intro h
          split
          · omega
          · rename_i h5
            simp only [Bool.not_eq_true, Option.isSome_eq_false_iff, Option.isNone_iff_eq_none] at h5
            rw [h5] at h
            have := h1 h
            omega) hor
        dsimp only
        refine ⟨by omega, (by simp <;> omega), fun _ => by omega, a4, fun h3 h4 => ?_, a6, fun x hx => ?_, ?_, fun h => ?_⟩
        · cases e : gp_win T m (nx &&& T.2.2 (15 + m) s) with
          | none =>
            have := a5 (by rw [e, h3]; rfl) h4
            rw [e] at this
            omega
          | some i =>
            have := (a9 (by rw [e]; rfl)).1
            rw [e] at this
            simp at this
            simp
            omega
        · have := a7 x hx
          omega
        · rw [List.length_cons]
          omega
        · have h6 := h1 h
          have := a9 (by rw [Option.isSome_or]; simp [h])
          refine ⟨?_, this.2⟩
          refine Nat.le_trans ?_ this.1
          split <;> omega
theorem gp_rm_end : ∀ (L : List Nat) (q nx : Nat) (r : Option Nat) (b : Nat), (gp_rm T m gp_F0 L q nx r b).2.2.2.1 = none → (gp_rm T m gp_F0 L q nx r b).2.2.1 = q + L.length
  | [], q, nx, r, b, h => by simp [gp_rm]
  | s :: L, q, nx, r, b, h => by
    rw [gp_rm] at h ⊢
    split
    · rename_i h1
      rw [if_pos h1] at h
      simp at h
    · rename_i h1
      rw [if_neg h1] at h
      simp only [gp_F0, Bool.false_eq_true, if_false] at h ⊢
      have := gp_rm_end L (q + 1) _ _ _ h
      rw [this, List.length_cons]
      omega
theorem gp_rm_ge : ∀ (L : List Nat) (q nx : Nat) (r : Option Nat) (b : Nat), q ≤ (gp_rm T m F L q nx r b).2.2.1
  | [], q, nx, r, b => by simp [gp_rm]
  | s :: L, q, nx, r, b => by
    rw [gp_rm]
    split
    · simp
    · split
      · simp
      · exact Nat.le_trans (Nat.le_succ q) (gp_rm_ge L (q + 1) _ _ _)
/-- what a token is -/
def gp_tkOk (T : gp_T) (n : Nat) (t : gp_K) : Prop := t.2.1 < t.2.2.1 ∧ t.2.2.1 ≤ t.2.2.2.1 ∧ t.2.2.2.1 ≤ n ∧ (∀ j, t.1 = some j → j < T.1) ∧ (∀ x, t.2.2.2.2.1 = some x → t.2.2.2.1 = x + 1 ∧ t.2.1 ≤ x) ∧ (t.2.2.2.2.1 = none → t.2.2.2.1 = n) ∧ t.2.2.2.2.2.1 < 4 ∧ gp_sk t.2.2.2.2.2.2
theorem gp_tok_ok (hw : gp_wT T) (hp : p < l.length) {stk : List Nat} (hs : gp_sk stk) : gp_tkOk T l.length (gp_tok T l p stk) := by
  obtain ⟨a1, a2, a3, a4, a5, a6, a7, a8, a9⟩ := gp_rm_f (T := T) (m := stk.headD 0) (F := gp_F0) (l.drop p) p (T.2.2 8 (stk.headD 0)) none p (by simp) (by simp)
  have h1 := gp_rm_end (T := T) (m := stk.headD 0) (l.drop p) p (T.2.2 8 (stk.headD 0)) none p
  have h2 : (l.drop p) ≠ [] := by rw [gp_drop hp]; simp
  have h3 : (l.drop p).length = l.length - p := List.length_drop
  have h4 := a3 h2
  unfold gp_tok gp_tokO gp_tkOk
  dsimp only
  refine ⟨?_, ?_, by omega, a6, a7, fun h => ?_, ?_, gp_act_sk hw a6 hs⟩
  · split
    · rename_i h5
      exact a5 rfl h5
    · omega
  · split
    · rename_i h5
      exact a4 h5
    · omega
  · rw [h1 h]; omega
  · cases stk with
    | nil => exact absurd hs.1 (by decide)
    | cons d t => exact hs.2.2 d List.mem_cons_self
theorem gp_cutF_ok (hw : gp_wT T) : ∀ (n p : Nat) (stk : List Nat), gp_sk stk → ∀ t, t ∈ gp_cutF T l n p stk → gp_tkOk T l.length t
  | 0, _, _, _, t, h => by cases h
  | n + 1, p, stk, hs, t, h => by
    rw [gp_cutF] at h
    split at h
    · rename_i hp
      have h1 := gp_tok_ok hw hp hs
      rcases List.mem_cons.mp h with rfl | h2
      · exact h1
      · exact gp_cutF_ok hw n _ _ h1.2.2.2.2.2.2.2 t h2
    · cases h
theorem gp_cutF_len : ∀ (n p : Nat) (stk : List Nat), (gp_cutF T l n p stk).length ≤ n
  | 0, _, _ => by simp [gp_cutF]
  | n + 1, p, stk => by
    rw [gp_cutF]
    split
    · have := gp_cutF_len n (gp_tok T l p stk).2.2.1 (gp_tok T l p stk).2.2.2.2.2.2
      simp only [List.length_cons]
      omega
    · simp
theorem gp_cut_len : (gp_cut T l).length ≤ 24 := gp_cutF_len 24 0 [0]
theorem gp_sk0 : gp_sk [0] := ⟨by decide, by decide, fun d hd => by simp at hd; omega⟩
theorem gp_cut_ok (hw : gp_wT T) : ∀ t, t ∈ gp_cut T l → gp_tkOk T l.length t := gp_cutF_ok hw 24 0 [0] gp_sk0
end
