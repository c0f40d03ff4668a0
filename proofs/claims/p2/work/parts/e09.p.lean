/-! both worlds as they are made -/
theorem gq_ok0 : gp_ok [] := ⟨Nat.zero_le _, gp_s0, rfl, Or.inl rfl, fun m _ => Nat.zero_le _⟩
theorem gq_tab0 : gp_tab [] = (0, fun _ => 0, fun _ _ => 0) := rfl
theorem gq_gR (k i : Nat) (hk : k < 36 := by omega) : gc_M0R.1 k i = 0 := by
  show gc_g (gz_tR.getD k 0) i = 0
  have : ∀ k, k < 36 → gz_tR.getD k 0 ≠ 4 ∧ gz_tR.getD k 0 ≠ 16 ∧ gz_tR.getD k 0 ≠ 0 := by decide
  obtain ⟨a, b, c⟩ := this k hk
  unfold gc_g
  rw [if_neg a, if_neg b, if_neg c]
theorem gq_RR0 (B : Prop) : ∃ MR, f12_layRules 1 gc_M0R = some MR ∧ gp_R B (fun _ => false) gq_MC MR := by
  obtain ⟨MR, e1, e2, e3⟩ := gp_lay (M := gc_M0R) (k0 := 1) (t := []) (by omega) gq_ok0 (fun i hi => absurd hi (Nat.not_lt_zero _)) (gq_gR 1 0) (fun i hi => absurd hi (Nat.not_lt_zero _))
  have hw : gp_wT (gp_tab []) := gp_tab_w (fun i hi => absurd hi (Nat.not_lt_zero _)) gq_ok0
  refine ⟨MR, e1, 30, [], ([], []), [], fun _ => none, 0, ⟨hw, ?_, e3, ⟨Nat.zero_le _, rfl, fun i hi => absurd hi (Nat.not_lt_zero _)⟩, ⟨Nat.zero_le _, ?_, fun i hi => absurd hi (Nat.not_lt_zero _)⟩, ⟨Or.inl rfl, rfl, ⟨rfl, rfl, fun i hi => absurd hi (Nat.not_lt_zero _)⟩, Nat.zero_le _⟩, rfl, [], [], Nat.zero_le _, Nat.zero_le _, ⟨rfl, fun i hi => absurd hi (Nat.not_lt_zero _)⟩, ⟨?_, fun i hi => absurd hi (Nat.not_lt_zero _)⟩, fun _ => rfl⟩, ⟨gq_ok0, fun i hi => absurd hi (Nat.not_lt_zero _), Nat.zero_le _, fun i hi => absurd hi (Nat.not_lt_zero _)⟩, ⟨Nat.zero_le _, rfl, fun i hi => absurd hi (Nat.not_lt_zero _)⟩, ⟨Nat.zero_le _, ?_, fun i hi => absurd hi (Nat.not_lt_zero _)⟩, ⟨Nat.zero_le _, rfl, fun i hi => absurd hi (Nat.not_lt_zero _)⟩, ⟨?_, fun i hi => absurd hi (Nat.not_lt_zero _), ?_, fun i hi => absurd hi (Nat.not_lt_zero _)⟩, fun j _ => rfl, ⟨by omega, Nat.zero_le _, rfl, rfl, fun i hi => absurd hi (Nat.not_lt_zero _)⟩, fun u h => absurd h List.not_mem_nil, ⟨?_, fun i hi => absurd hi (Nat.not_lt_zero _)⟩, fun i hi => ⟨rfl, ?_⟩⟩
  · refine ⟨rfl, fun j hj => absurd hj (Nat.not_lt_zero _), fun m hm => ?_⟩
    match m, hm with
    | 0, _ => exact ⟨rfl, rfl, fun x _ => rfl, fun x _ => rfl⟩
    | 1, _ => exact ⟨rfl, rfl, fun x _ => rfl, fun x _ => rfl⟩
    | 2, _ => exact ⟨rfl, rfl, fun x _ => rfl, fun x _ => rfl⟩
    | 3, _ => exact ⟨rfl, rfl, fun x _ => rfl, fun x _ => rfl⟩
    | m + 4, h => exact absurd h (by omega)
  · rw [e2.2.1 1 (by omega) (by omega)]; exact gq_gR 1 81
  · rw [e2.2.2 4 (by omega)]; exact gq_gR 0 4
  · rw [e2.2.2 2 (by omega)]; exact gq_gR 0 2
  · rw [e2.2.1 1 (by omega) (by omega)]; exact gq_gR 1 0
  · rw [e2.2.1 1 (by omega) (by omega)]; exact gq_gR 1 81
  · rw [e2.2.2 51 (by omega)]; exact gq_gR 0 51
  · rw [e2.2.1 22 (by omega) (by omega)]; exact gq_gR 22 i
