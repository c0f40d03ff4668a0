/-! the bound of the rows: closed where letters times standings are 64 at most -/
section
variable {T : gp_T} {m k : Nat} {own : Nat → Nat → Nat}
def gq_np (own : Nat → Nat → Nat) (m k : Nat) : Nat := ((List.range 10).filter (fun x => decide (own m x = k))).length
def gq_nr (own : Nat → Nat → Nat) (m k : Nat) : Nat := ((List.range 10).filter (fun x => decide (own m x < k))).length
theorem gq_npr (own : Nat → Nat → Nat) (m k : Nat) : gq_np own m k + gq_nr own m k ≤ 10 := by
  have h := gq_two (fun x => decide (own m x = k)) (fun x => decide (own m x < k)) (fun x g1 g2 => by
    have := of_decide_eq_true g1
    have := of_decide_eq_true g2
    omega) (List.range 10)
  rw [List.length_range] at h
  exact h
theorem gq_word_if (hw : gp_wT T) (ho : gq_oT own T) (hk : k < T.1) (h64 : gq_np own (T.2.2 1 k) k * 2 ^ gq_nr own (T.2.2 1 k) k ≤ 64) {s : Nat} {w : List Nat} (hs : s < 8) (hz : ∀ z, z ∈ w → z < 8) (hwin : gp_win T (T.2.2 1 k) (gq_run T (T.2.2 1 k) (T.2.2 8 (T.2.2 1 k) &&& T.2.2 (15 + T.2.2 1 k) s) w) = some k) : ∃ s' w', s' < 8 ∧ (∀ z, z ∈ w' → z < 8) ∧ w'.length + 1 ≤ 64 ∧ gp_win T (T.2.2 1 k) (gq_run T (T.2.2 1 k) (T.2.2 8 (T.2.2 1 k) &&& T.2.2 (15 + T.2.2 1 k) s') w') = some k := by
  have hm := (hw.2.1 k hk).1
  obtain ⟨Mk, hM⟩ := gq_mk_ex own (T.2.2 1 k) k
  obtain ⟨s', w', a1, a2, a3, Z, b1, b2, b3, b4⟩ := gq_min hw ho hm hM hs hz hwin
  have hZ : Z ≠ [] := fun e => by rw [e] at b2; exact absurd b2.symm (Nat.succ_ne_zero _)
  have hc := gq_count ho hm hk rfl hM hZ b1 b3 b4
  exact ⟨s', w', a1, a2, by rw [← b2]; exact Nat.le_trans hc h64, a3⟩
theorem gq_pr_big : ∀ p, p < 11 → ∀ r, r < 11 → (p + r ≤ 10 ∧ (7 ≤ p ∨ r ≤ 2 ∨ (p ≤ 4 ∧ r ≤ 4) ∨ (p ≤ 8 ∧ r ≤ 3))) → p * 2 ^ r ≤ 64 := by decide
end
