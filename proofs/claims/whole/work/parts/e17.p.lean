/-! the bound of the rows: what is left is shortest's -/
def gq_sh (T : gp_T) : Prop := ∀ k h, k < T.1 → h < (gp_ex T (T.2.2 1 k)).length → gp_win T (T.2.2 1 k) ((gp_ex T (T.2.2 1 k)).getD h gp_e0).1 = some k → (∀ g, g < h → gp_win T (T.2.2 1 k) ((gp_ex T (T.2.2 1 k)).getD g gp_e0).1 ≠ some k) → (gp_pth (gp_ex T (T.2.2 1 k)) 1024 h).length ≤ 64
theorem gq_bnd_of {z : gp_Bk} (hz : gp_okB z) (hs : gq_sh (gp_tab z.1)) : gp_bnd (gp_tab z.1) := by
  have hw := gp_tab_w hz.2.1 hz.1
  obtain ⟨own, ho⟩ := gq_own hz.2.1 hz.1
  exact ⟨hs, fun k j h hk hj hkj hmj hh h1 h2 hf => Nat.le_trans (gq_ovl hw ho hk hj hkj hmj hh h1 h2 hf) (by decide)⟩
/-- where a word of 64 signs at most leads to a win of the rule: shortest tells no more -/
theorem gq_sh_of {T : gp_T} (hw : gp_wT T) (hword : ∀ k s w, k < T.1 → s < 8 → (∀ z, z ∈ w → z < 8) → gp_win T (T.2.2 1 k) (gq_run T (T.2.2 1 k) (T.2.2 8 (T.2.2 1 k) &&& T.2.2 (15 + T.2.2 1 k) s) w) = some k → ∃ s' w', s' < 8 ∧ (∀ z, z ∈ w' → z < 8) ∧ w'.length + 1 ≤ 64 ∧ gp_win T (T.2.2 1 k) (gq_run T (T.2.2 1 k) (T.2.2 8 (T.2.2 1 k) &&& T.2.2 (15 + T.2.2 1 k) s') w') = some k) : gq_sh T := by
  intro k h hk hh hwin hf
  have hm := (hw.2.1 k hk).1
  obtain ⟨s, w, r1, r2, r3⟩ := gq_rex T (T.2.2 1 k) _ (gp_getD_mem (d := gp_e0) hh)
  rw [← r3] at hwin
  obtain ⟨s', w', a1, a2, a3, a4⟩ := hword k s w hk r1 r2 hwin
  refine Nat.le_trans (gq_first hw hm (fun S => gp_win T (T.2.2 1 k) S = some k) (fun g => ?_) hh hf a1 a2 a4) a3
  exact (gp_win_some g).2.2 (Nat.and_zero _)
