/-! count and row where the rows may differ: what a part of the promise needs of them -/
section
variable {B : Prop} {pf : Nat → Bool} {Mc Mr : gz_M} {cu o : Nat} {x : List Nat} {b : gp_Bk} {us : List gp_Bk} {ks : Nat → Option gp_Bk}
theorem gp_a40v (h : gp_RI B pf cu Mc Mr x b us ks o) (a : Int32) (hB : a = nI 4 → B) : gp_ans B cu Mc Mr (f11_count a Mc) (f12_count a Mr) := by
  obtain ⟨hq, h2', h3', h4', _, _, _, h8', _, h10', _⟩ := h
  have hQ := hq
  obtain ⟨h1, h2, h3, h4, h5, h6, h7, h8⟩ := hq
  have tR : gp_tR (gz_w Mr 0 5 0) (gp_tab b.1) := h3.fr (fun c c1 c2 => gp_wc _ (by omega)) (gp_gn (by omega))
  obtain ⟨M1, e1, e2, e3, e4, e5, e6, e7, e8, _⟩ := gp_cutT hQ
  rcases pk_ix a (n := 9) (by omega) with ha | ha | ⟨j, hj, rfl⟩
  · refine gp_ansN hQ (-1) ?_ ?_
    · unfold f11_count; rw [if_pos (Or.inl (gp_tneg ha))]
    · unfold f12_count; rw [gp_eL, if_pos (Or.inl (gp_tneg ha))]
  · have g := gp_tge (by omega) ha
    refine gp_ansN hQ (-1) ?_ ?_
    · unfold f11_count; rw [if_pos (Or.inr (by omega))]
    · unfold f12_count; rw [gp_eL, if_pos (Or.inr (by omega))]
  · have hc : j = 0 ∨ j = 1 ∨ j = 2 ∨ j = 3 ∨ j = 4 ∨ j = 5 ∨ j = 6 ∨ j = 7 ∨ j = 8 := by omega
    rcases hc with rfl | rfl | rfl | rfl | rfl | rfl | rfl | rfl | rfl
    · refine gp_ansN hQ (nI (gp_tab b.1).1) ?_ ?_
      · unfold f11_count; rw [if_neg (by decide), if_pos (by decide), h2.1]
      · unfold f12_count; rw [gp_eL, if_neg (by decide), if_pos (by decide), tR.1]
    · refine gp_ansN hQ (nI b.2.length) ?_ ?_
      · unfold f11_count; rw [if_neg (by decide), if_neg (by decide), if_pos (by decide)]; exact congrArg (fun v => some (v, Mc)) h4.2.1
      · unfold f12_count; rw [gp_eL, if_neg (by decide), if_neg (by decide), if_pos (by decide), gp_c81, gp_wc _ (by omega), gp_k81, h5.2.1]
    · refine gp_ansK (v := nI (gp_cut (gp_tab b.1) b.2).length) (Mc' := Mc) (Mr' := M1) ?_ ?_ gp_qC.refl e2 h8 rfl rfl e7 e8
      · unfold f11_count; rw [if_neg (by decide), if_neg (by decide), if_neg (by decide), if_pos (by decide), h6.2.1, h6.2.2.1.1]
      · unfold f12_count; rw [gp_eL, if_neg (by decide), if_neg (by decide), if_neg (by decide), if_pos (by decide), e1, gp_eB, e3.1]
    · refine gp_ansN hQ (nI us.length) ?_ ?_
      · unfold f11_count; rw [if_neg (by decide), if_neg (by decide), if_neg (by decide), if_neg (by decide), if_pos (by decide), h8'.2.2.2.1]
      · unfold f12_count; rw [gp_eL, if_neg (by decide), if_neg (by decide), if_neg (by decide), if_neg (by decide), if_pos (by decide), gp_gn (by omega), h10'.1]
    · obtain ⟨r, r', p0, p1, p2, p3, p4⟩ := h8
      have hrr := p4 (hB rfl)
      subst hrr
      refine gp_ansN hQ (nI r.length) ?_ ?_
      · unfold f11_count; rw [if_neg (by decide), if_neg (by decide), if_neg (by decide), if_neg (by decide), if_neg (by decide), if_pos (by decide), p2.1]
      · unfold f12_count; rw [gp_eL, if_neg (by decide), if_neg (by decide), if_neg (by decide), if_neg (by decide), if_neg (by decide), if_pos (by decide), gp_gn (by omega), p3.1]
    · refine gp_ansN hQ (nI x.length) ?_ ?_
      · unfold f11_count; rw [if_neg (by decide), if_neg (by decide), if_neg (by decide), if_neg (by decide), if_neg (by decide), if_neg (by decide), if_pos (by decide), h3'.2.1]
      · unfold f12_count; rw [gp_eL, if_neg (by decide), if_neg (by decide), if_neg (by decide), if_neg (by decide), if_neg (by decide), if_neg (by decide), if_pos (by decide), gp_gn (by omega), h4'.2.1]
    · refine gp_ansK (v := nI (gp_most (gp_cut (gp_tab b.1) b.2))) (Mc' := Mc) (Mr' := M1) ?_ ?_ gp_qC.refl e2 h8 rfl rfl e7 e8
      · unfold f11_count; rw [if_neg (by decide), if_neg (by decide), if_neg (by decide), if_neg (by decide), if_neg (by decide), if_neg (by decide), if_neg (by decide), if_pos (by decide), h6.2.1, h6.2.2.1.2.1]
      · unfold f12_count; rw [gp_eL, if_neg (by decide), if_neg (by decide), if_neg (by decide), if_neg (by decide), if_neg (by decide), if_neg (by decide), if_neg (by decide), if_pos (by decide), e1, gp_eB, e3.2.1]
    · refine gp_ansN hQ (gp_ac (fun v x => v + nI ((gp_tab b.1).2.2 2 x)) (gp_tab b.1).1) ?_ ?_
      · unfold f11_count; rw [if_neg (by decide), if_neg (by decide), if_neg (by decide), if_neg (by decide), if_neg (by decide), if_neg (by decide), if_neg (by decide), if_neg (by decide), if_pos (by decide), gp_allL h2 h1, gp_eB2]
      · unfold f12_count; rw [gp_eL, if_neg (by decide), if_neg (by decide), if_neg (by decide), if_neg (by decide), if_neg (by decide), if_neg (by decide), if_neg (by decide), if_neg (by decide), if_pos (by decide), gp_allR tR h1, gp_eB2]
    · refine gp_ansN hQ (gp_ac (fun v x => v ||| gz_shl 1 (nI ((gp_tab b.1).2.2 1 x))) (gp_tab b.1).1) ?_ ?_
      · unfold f11_count; rw [if_neg (by decide), if_neg (by decide), if_neg (by decide), if_neg (by decide), if_neg (by decide), if_neg (by decide), if_neg (by decide), if_neg (by decide), if_neg (by decide), if_pos (by decide), gp_modL h2 h1, gp_eB2]
      · unfold f12_count; rw [gp_eL, if_neg (by decide), if_neg (by decide), if_neg (by decide), if_neg (by decide), if_neg (by decide), if_neg (by decide), if_neg (by decide), if_neg (by decide), if_neg (by decide), if_pos (by decide), gp_modR tR h1, gp_eB2]
/-- count: both answer, and both worlds hold again -/
theorem gp_a40w (h : gp_RI B pf cu Mc Mr x b us ks o) (a : Int32) : ∃ v v' Mc' Mr', f11_count a Mc = some (v, Mc') ∧ f12_count a Mr = some (v', Mr') ∧ gp_R B pf Mc' Mr' := by
  by_cases h4 : a = nI 4
  · subst h4
    obtain ⟨hq, _⟩ := id h
    have hQ := hq
    obtain ⟨h1, h2, h3, h4, h5, h6, h7, r, r', p0, p1, p2, p3, p4⟩ := hq
    have h8 : gp_rw B Mc Mr := ⟨r, r', p0, p1, p2, p3, p4⟩
    refine ⟨nI r.length, nI r'.length, Mc, gz_w Mr 0 5 0, ?_, ?_, cu, x, b, us, ks, o, h.ans gp_qC.refl (gp_thr 0).1 (h8.fr rfl rfl rfl (gp_gn (by omega)))⟩
    · unfold f11_count; rw [if_neg (by decide), if_neg (by decide), if_neg (by decide), if_neg (by decide), if_neg (by decide), if_pos (by decide), p2.1]
    · unfold f12_count; rw [gp_eL, if_neg (by decide), if_neg (by decide), if_neg (by decide), if_neg (by decide), if_neg (by decide), if_pos (by decide), gp_gn (by omega), p3.1]
  · obtain ⟨v, Mc', Mr', e1, e2, hR⟩ := h.q (gp_a40v h a (fun e => absurd e h4))
    exact ⟨v, v, Mc', Mr', e1, e2, hR⟩
/-- row: both answer or throw, and both worlds hold again -/
theorem gp_a41w (h : gp_RI B pf cu Mc Mr x b us ks o) (a : Int32) : ∃ r v Mc' Mr', f11_row a Mc = some (r, Mc') ∧ f12_row a Mr = some (v, Mr') ∧ gp_R B pf Mc' Mr' := by
  obtain ⟨hq, _⟩ := id h
  obtain ⟨h1, h2, h3, h4, h5, h6, h7, r, r', p0, p1, p2, p3, p4⟩ := hq
  have h8 : gp_rw B Mc Mr := ⟨r, r', p0, p1, p2, p3, p4⟩
  have n0 : (gz_w Mr 0 5 0).1 0 4 = nI r'.length := by rw [gp_gn (by omega)]; exact p3.1
  have hcl : ∃ q, f11_row a Mc = some (q, Mc) := by
    rcases pk_ix a (n := r.length) (by omega) with ha | ha | ⟨j, hj, rfl⟩
    · exact ⟨none, by unfold f11_row; rw [if_pos ha]; rfl⟩
    · exact ⟨none, by unfold f11_row; rw [if_neg (gp_neg_of (by omega) ha), p2.1, if_pos ha]; rfl⟩
    · exact ⟨some (r.getD j 0), by unfold f11_row; rw [if_neg (nI_pos (by omega)), p2.1, if_neg (nI_ge hj (by omega)), if_pos (show nI j < (1024 : Int32) from nI_lt (b := 1024) (by omega) (by omega)), gp_ckb (show j < 1024 by omega) (by omega), nI_clamp (by omega), p2.2 j hj]⟩
  obtain ⟨q, hq⟩ := hcl
  have t0 := (gp_thr (M := Mr) 0).1
  rcases pk_ix a (n := r'.length) (by omega) with ha | ha | ⟨j, hj, rfl⟩
  · refine ⟨q, (0 : Int32).toInt64, Mc, gz_w (gz_w Mr 0 5 0) 0 5 1, hq, by unfold f12_row; rw [gp_eL, n0, gp_in0 _ _ ha]; rfl, cu, x, b, us, ks, o, h.ans gp_qC.refl (t0.trans (gp_thr 1).1) (h8.fr rfl rfl rfl ((gp_gn (by omega)).trans (gp_gn (by omega))))⟩
  · refine ⟨q, (0 : Int32).toInt64, Mc, gz_w (gz_w Mr 0 5 0) 0 5 1, hq, by unfold f12_row; rw [gp_eL, n0, gp_in0b _ (by omega) (gp_neg_of (by omega) ha) ha]; rfl, cu, x, b, us, ks, o, h.ans gp_qC.refl (t0.trans (gp_thr 1).1) (h8.fr rfl rfl rfl ((gp_gn (by omega)).trans (gp_gn (by omega))))⟩
  · refine ⟨q, r'.getD j 0, Mc, gz_w Mr 0 5 0, hq, ?_, cu, x, b, us, ks, o, h.ans gp_qC.refl t0 (h8.fr rfl rfl rfl (gp_gn (by omega)))⟩
    unfold f12_row
    rw [gp_eL, n0, gp_in1 _ (by omega) hj, gp_eB2, if_neg (by decide), gp_ckb (show j < 64 by omega) (by omega), nI_clamp (by omega)]
    show some (Mr.2 j, _) = _
    rw [p3.2 j hj]
end
