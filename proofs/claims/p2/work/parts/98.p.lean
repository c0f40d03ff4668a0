/-! rules told as a text: the reference's fault is the component's; letters counted -/
section
variable {t : List Nat} {M : gz_M}
theorem gp_er_itr : ∀ (n d p : Nat) (s s' : gp_S), gp_itr t n p s = some s' → gp_er t (n + d) p s = gp_er t d (p + n) s'
  | 0, d, p, s, s', h => by
    cases h
    rw [Nat.zero_add, Nat.add_zero]
  | n + 1, d, p, s, s', h => by
    rw [gp_itr] at h
    cases e : gp_stp s (t.getD p 0) with
    | none => rw [e] at h; cases h
    | some s1 =>
      rw [e] at h
      rw [show n + 1 + d = (n + d) + 1 by omega, gp_er, e]
      show gp_er t (n + d) (p + 1) s1 = _
      rw [gp_er_itr n d (p + 1) s1 s' h, show p + 1 + n = p + (n + 1) by omega]
theorem gp_bad_flt (h : gp_bad M t) : ∃ q, q ≤ t.length ∧ gp_flt t = some q ∧ M.1 0 9 = nI q := by
  obtain ⟨q, s, h1, h2, h3, h4, h5⟩ := h
  refine ⟨q, h2, ?_, h5⟩
  unfold gp_flt
  obtain ⟨d, hd⟩ : ∃ d, t.length = q + d := ⟨t.length - q, by omega⟩
  have e := gp_er_itr q d 0 gp_s0 s h1
  rw [← hd, Nat.zero_add] at e
  rw [e]
  cases d with
  | zero =>
    rw [gp_er]
    exact if_neg (h4 (by omega))
  | succ d =>
    rw [gp_er, h3 (by omega)]
/-- a text that comes to its end has no fault -/
theorem gp_flt_no {s : gp_S} (h : gp_itr t t.length 0 gp_s0 = some s) (hm : gp_mEnd t s) : gp_flt t = none := by
  have e := gp_er_itr t.length 0 0 gp_s0 s h
  rw [Nat.add_zero, Nat.zero_add] at e
  unfold gp_flt
  rw [e, gp_er]
  exact if_pos hm
/-- the first mode with too many letters, in the reference -/
theorem gp_crowd {u : Nat → Nat} (h : ∀ m, m < 4 → M.1 12 m = nI (u m) ∧ u m ≤ 80) : f12_crowded M = some (gp_o (gp_over u), M) := by
  have st : ∀ (m n : Nat), m < 4 → f12_crowded_2 (n + 1) (nI m) M = if 10 < u m then some (nI m, M) else f12_crowded_2 n (nI (m + 1)) M := fun m n hm => by
    obtain ⟨a, b⟩ := h m hm
    rw [f12_crowded_2, if_neg (show ¬ (4 : Int32) ≤ nI m from nI_ge (b := 4) (by omega) (by omega)), gp_ckb hm (by omega), nI_clamp (by omega), a]
    by_cases h : 10 < u m
    · rw [if_neg (show ¬ nI (u m) ≤ (10 : Int32) from nI_ge (a := 10) (by omega) (by omega)), if_pos h]
    · rw [if_pos (show nI (u m) ≤ (10 : Int32) from nI_le (b := 10) (by omega) (by omega)), if_neg h, gp_eL, nI_1]
  unfold f12_crowded
  rw [show (0 : Int32) = nI 0 from rfl, show gz_FU = 999995 + 1 + 1 + 1 + 1 + 1 from rfl, st 0 _ (by omega), st 1 _ (by omega), st 2 _ (by omega), st 3 _ (by omega)]
  unfold gp_over
  split
  · rfl
  · split
    · rfl
    · split
      · rfl
      · split
        · rfl
        · rw [f12_crowded_2, if_pos (by decide)]
          rfl
end
