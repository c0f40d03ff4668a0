/-! rules told as a text: a rule begins, an act, a step in the component -/
section
variable {k : Nat} {M M' : gz_M} {s : gp_S}
theorem gp_begC (hk : 6 < k) (ho : gp_opn s) {c : Nat} (hc : 48 ≤ c ∧ c ≤ 51) (h : gp_bC k M s) : ∃ M', f1_beginRule k (nI c - 48) M = some M' ∧ gp_bL k M M' ∧ gp_bC k M' (gp_beg s c) := by
  have h7 := ho.2.2.1
  obtain ⟨hT, _⟩ := h
  have hT := hT
  have e48 : nI c - 48 = nI (c - 48) := gp_subI (b := 48) hc.1
  have hmd : gp_md (gp_beg s c).2.1 = c - 48 := by
    unfold gp_md gp_beg
    dsimp only [gp_set]
    rw [if_neg (by omega), if_neg (by omega), if_pos ⟨rfl, rfl⟩]
  have oth : ∀ a j, ¬ (j = s.2.1.1) ∨ 3 < a → (gp_beg s c).2.1.2.2 a j = s.2.1.2.2 a j := fun a j hj => by
    unfold gp_beg
    dsimp only [gp_set]
    rw [if_neg (by omega), if_neg (by omega), if_neg (by omega)]
  have othD : ∀ j, ¬ (j = s.2.1.1) → (gp_beg s c).2.1.2.1 j = s.2.1.2.1 j := fun j hj => by
    unfold gp_beg
    dsimp only [gp_setD]
    rw [if_neg hj]
  generalize hm : c - 48 = m at *
  have hm4 : m < 4 := by omega
  generalize hr : s.2.1.1 = r at *
  refine ⟨gz_w (gz_w (gz_w (gz_w (gz_w (gz_w (gz_w (gz_w (gz_w (gz_w M 4 4 (nI r)) 4 5 (nI m)) (k + 1) r (nI m)) (k + 2) r 0) (k + 3) r 0) (k + 4) r (-1)) 4 2 0) 4 3 (-1)) 5 0 (-1)) 6 0 (-1), ?_, ?_, ?_, fun _ => ?_⟩
  · unfold f1_beginRule
    rw [hT.1, hr, if_neg (show ¬ (8 : Int32) ≤ nI r from nI_ge (b := 8) (by omega) (by omega)), e48]
    unfold f1_beginRule_19
    rw [gp_eL, gp_isMode hm4, gp_eB2, if_neg (by decide)]
    unfold f1_beginRule_35
    rw [gp_eL, gp_gn (by omega), gp_gs, gp_gs, gp_ckb (show r < 8 by omega) (by omega), nI_clamp (by omega), gp_eL, gp_gn (by omega), gp_gn (by omega), gp_gs, gp_ckb (show r < 8 by omega) (by omega), nI_clamp (by omega), gp_eL, gp_gn (by omega), gp_gn (by omega), gp_gn (by omega), gp_gs, gp_ckb (show r < 8 by omega) (by omega), nI_clamp (by omega), gp_eL, gp_gn (by omega), gp_gn (by omega), gp_gn (by omega), gp_gn (by omega), gp_gs, gp_ckb (show r < 8 by omega) (by omega), nI_clamp (by omega), gp_eL, gp_eL, gp_eL, show gz_inb 0 7 = true from gp_inb (i := 0) (by omega) (by omega), gp_eC]
    rfl
  · exact (((((((((gp_bL.w _ (by omega)).trans (gp_bL.w _ (by omega))).trans (gp_bL.w _ (by omega))).trans (gp_bL.w _ (by omega))).trans (gp_bL.w _ (by omega))).trans (gp_bL.w _ (by omega))).trans (gp_bL.w _ (by omega))).trans (gp_bL.w _ (by omega))).trans (gp_bL.w _ (by omega))).trans (gp_bL.w _ (by omega))
  · have rd : ∀ a i, a ≠ 4 → a ≠ 5 → a ≠ 6 → (i ≠ r ∨ (a ≠ k + 1 ∧ a ≠ k + 2 ∧ a ≠ k + 3 ∧ a ≠ k + 4)) → (gz_w (gz_w (gz_w (gz_w (gz_w (gz_w (gz_w (gz_w (gz_w (gz_w M 4 4 (nI r)) 4 5 (nI m)) (k + 1) r (nI m)) (k + 2) r 0) (k + 3) r 0) (k + 4) r (-1)) 4 2 0) 4 3 (-1)) 5 0 (-1)) 6 0 (-1)).1 a i = M.1 a i := fun a i h1 h2 h3 h4 => by
      rw [gp_gn (by omega), gp_gn (by omega), gp_gn (by omega), gp_gn (by omega), gp_gn (by omega), gp_gn (by omega), gp_gn (by omega), gp_gn (by omega), gp_gn (by omega), gp_gn (by omega)]
    refine ⟨?_, fun j hj => ?_, fun y hy => ?_⟩
    · rw [rd _ _ (by omega) (by omega) (by omega) (by omega), hT.1]
      show nI s.2.1.1 = nI s.2.1.1
      rfl
    · have hj : j < s.2.1.1 := hj
      obtain ⟨c1, c2, c3, c4, c5, c6⟩ := hT.2.1 j hj
      rw [rd _ _ (by omega) (by omega) (by omega) (by omega), rd _ _ (by omega) (by omega) (by omega) (by omega), rd _ _ (by omega) (by omega) (by omega) (by omega), rd _ _ (by omega) (by omega) (by omega) (by omega), rd _ _ (by omega) (by omega) (by omega) (by omega), rd _ _ (by omega) (by omega) (by omega) (by omega)]
      rw [oth 1 j (by omega), oth 2 j (by omega), oth 3 j (by omega), oth 5 j (by omega), oth 6 j (by omega), othD j (by omega)]
      exact ⟨c1, c2, c3, c4, c5, c6⟩
    · obtain ⟨c1, c2, c3, c4⟩ := hT.2.2 y hy
      refine ⟨?_, ?_, fun x hx => ?_, fun x hx => ?_⟩
      · rw [rd _ _ (by omega) (by omega) (by omega) (by omega), oth _ _ (by omega)]; exact c1
      · rw [rd _ _ (by omega) (by omega) (by omega) (by omega), oth _ _ (by omega)]; exact c2
      · rw [rd _ _ (by omega) (by omega) (by omega) (by omega), oth _ _ (by omega)]; exact c3 x hx
      · rw [rd _ _ (by omega) (by omega) (by omega) (by omega), oth _ _ (by omega)]; exact c4 x hx
  · have hr1 : (gp_beg s c).2.1.1 = r := hr
    have hl : (gp_beg s c).2.2.1 = [(none, none)] := rfl
    unfold gp_bR
    rw [hr1, hl, hmd]
    refine ⟨?_, ?_, ?_, ?_, ⟨?_, ?_, trivial⟩, ?_, ?_, ?_, ?_⟩
    · rw [gp_gn (by omega), gp_gn (by omega), gp_gn (by omega), gp_gs]; rfl
    · rw [gp_gn (by omega), gp_gn (by omega), gp_gs]; rfl
    · rw [gp_gn (by omega), gp_gn (by omega), gp_gn (by omega), gp_gn (by omega), gp_gn (by omega), gp_gn (by omega), gp_gn (by omega), gp_gn (by omega), gp_gn (by omega), gp_gs]
    · rw [gp_gn (by omega), gp_gn (by omega), gp_gn (by omega), gp_gn (by omega), gp_gn (by omega), gp_gn (by omega), gp_gn (by omega), gp_gn (by omega), gp_gs]
    · show (gz_w _ 6 0 (-1)).1 5 0 = _
      rw [gp_gn (by omega), gp_gs]; rfl
    · show (gz_w _ 6 0 (-1)).1 6 0 = _
      rw [gp_gs]; rfl
    · rw [gp_gn (by omega), gp_gn (by omega), gp_gn (by omega), gp_gn (by omega), gp_gn (by omega), gp_gn (by omega), gp_gn (by omega), gp_gs]
      unfold gp_beg
      dsimp only [gp_set]
      rw [hr, if_neg (by omega), if_neg (by omega), if_pos ⟨rfl, rfl⟩, hm]
    · rw [gp_gn (by omega), gp_gn (by omega), gp_gn (by omega), gp_gn (by omega), gp_gn (by omega), gp_gn (by omega), gp_gs]
      unfold gp_beg
      dsimp only [gp_set]
      rw [hr, if_neg (by omega), if_pos ⟨rfl, rfl⟩]
      rfl
    · rw [gp_gn (by omega), gp_gn (by omega), gp_gn (by omega), gp_gn (by omega), gp_gn (by omega), gp_gs]
      unfold gp_beg
      dsimp only [gp_set]
      rw [hr, if_pos ⟨rfl, rfl⟩]
      rfl
    · rw [gp_gn (by omega), gp_gn (by omega), gp_gn (by omega), gp_gn (by omega), gp_gs]
      unfold gp_beg
      dsimp only [gp_setD]
      rw [hr, if_pos rfl]
theorem gp_actC (hk : 6 < k) (hw : gp_wS s) (h1 : 1 ≤ s.1) (d a : Nat) (hd : 1 ≤ d) (h : gp_bC k M s) : gp_bC k (gz_w M (k + 3) s.2.1.1 (nI a)) (gp_act1 s d a) := by
  obtain ⟨hT, hR⟩ := h
  obtain ⟨b1, b2, b3, b4, b5, b6, b7, b8, b9⟩ := hR h1
  have hmd : gp_md (gp_act1 s d a).2.1 = gp_md s.2.1 := by
    unfold gp_md gp_act1
    dsimp only [gp_set]
    rw [if_neg (by omega)]
  have oth : ∀ c j, ¬ (c = 3 ∧ j = s.2.1.1) → (gp_act1 s d a).2.1.2.2 c j = s.2.1.2.2 c j := fun c j hj => by
    unfold gp_act1
    dsimp only [gp_set]
    rw [if_neg hj]
  have hat : (gp_act1 s d a).2.1.2.2 3 s.2.1.1 = a := by
    unfold gp_act1
    dsimp only [gp_set]
    rw [if_pos ⟨rfl, rfl⟩]
  refine ⟨⟨?_, fun j hj => ?_, fun y hy => ?_⟩, fun _ => ⟨?_, ?_, ?_, ?_, b5.fr fun i hi => ⟨?_, ?_⟩, ?_, ?_, ?_, ?_⟩⟩
  · rw [gp_gn (by omega)]; exact hT.1
  · have hj : j < s.2.1.1 := hj
    rw [gp_gn (by omega), gp_gn (by omega), gp_gn (by omega), gp_gn (by omega), gp_gn (by omega), gp_gn (by omega), oth 1 j (by omega), oth 2 j (by omega), oth 3 j (by omega), oth 5 j (by omega), oth 6 j (by omega)]
    exact hT.2.1 j hj
  · obtain ⟨c1, c2, c3, c4⟩ := hT.2.2 y hy
    refine ⟨?_, ?_, fun x hx => ?_, fun x hx => ?_⟩
    · rw [gp_gn (by omega), oth _ _ (by omega)]; exact c1
    · rw [gp_gn (by omega), oth _ _ (by omega)]; exact c2
    · rw [gp_gn (by omega), oth _ _ (by omega)]; exact c3 x hx
    · rw [gp_gn (by omega), oth _ _ (by omega)]; exact c4 x hx
  · rw [gp_gn (by omega)]; exact b1
  · rw [gp_gn (by omega)]; exact b2
  · rw [gp_gn (by omega)]; exact b3
  · rw [gp_gn (by omega), hmd]; exact b4
  · rw [gp_gn (by omega)]
  · rw [gp_gn (by omega)]
  · show (gz_w M (k + 3) s.2.1.1 (nI a)).1 (k + 1) s.2.1.1 = nI ((gp_act1 s d a).2.1.2.2 1 s.2.1.1)
    rw [gp_gn (by omega), oth _ _ (by omega)]; exact b6
  · show (gz_w M (k + 3) s.2.1.1 (nI a)).1 (k + 2) s.2.1.1 = nI ((gp_act1 s d a).2.1.2.2 2 s.2.1.1)
    rw [gp_gn (by omega), oth _ _ (by omega)]; exact b7
  · show (gz_w M (k + 3) s.2.1.1 (nI a)).1 (k + 3) s.2.1.1 = nI ((gp_act1 s d a).2.1.2.2 3 s.2.1.1)
    rw [gp_gs, hat]
  · show (gz_w M (k + 3) s.2.1.1 (nI a)).1 (k + 4) s.2.1.1 = s.2.1.2.1 s.2.1.1
    rw [gp_gn (by omega)]; exact b9
theorem gp_digC (hk : 6 < k) (h1 : 1 ≤ s.1) (v : Int32) (h : gp_bC k M s) : gp_bC k (gz_w M (k + 4) s.2.1.1 v) (5, (s.2.1.1, gp_setD s.2.1.2.1 s.2.1.1 v, s.2.1.2.2), s.2.2.1, s.2.2.2) := by
  obtain ⟨hT, hR⟩ := h
  obtain ⟨b1, b2, b3, b4, b5, b6, b7, b8, b9⟩ := hR h1
  refine ⟨⟨?_, fun j hj => ?_, fun y hy => ?_⟩, fun _ => ⟨?_, ?_, ?_, ?_, b5.fr fun i hi => ⟨?_, ?_⟩, ?_, ?_, ?_, ?_⟩⟩
  · rw [gp_gn (by omega)]; exact hT.1
  · have hj : j < s.2.1.1 := hj
    rw [gp_gn (by omega), gp_gn (by omega), gp_gn (by omega), gp_gn (by omega), gp_gn (by omega), gp_gn (by omega)]
    obtain ⟨c1, c2, c3, c4, c5, c6⟩ := hT.2.1 j hj
    refine ⟨c1, c2, c3, ?_, c5, c6⟩
    rw [c4]
    dsimp only [gp_setD]
    rw [if_neg (by omega)]
  · obtain ⟨c1, c2, c3, c4⟩ := hT.2.2 y hy
    refine ⟨?_, ?_, fun x hx => ?_, fun x hx => ?_⟩
    · rw [gp_gn (by omega)]; exact c1
    · rw [gp_gn (by omega)]; exact c2
    · rw [gp_gn (by omega)]; exact c3 x hx
    · rw [gp_gn (by omega)]; exact c4 x hx
  · rw [gp_gn (by omega)]; exact b1
  · rw [gp_gn (by omega)]; exact b2
  · rw [gp_gn (by omega)]; exact b3
  · rw [gp_gn (by omega)]; exact b4
  · rw [gp_gn (by omega)]
  · rw [gp_gn (by omega)]
  · dsimp only
    rw [gp_gn (by omega)]; exact b6
  · dsimp only
    rw [gp_gn (by omega)]; exact b7
  · dsimp only
    rw [gp_gn (by omega)]; exact b8
  · dsimp only [gp_setD]
    rw [gp_gs, if_pos rfl]
end
