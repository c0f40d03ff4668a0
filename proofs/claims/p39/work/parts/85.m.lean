section
/-! rules told as a text: marks in the component -/
section
variable {k : Nat} {M M' : gz_M} {s : gp_S}
theorem gp_bR_part {T' : gp_T} {d : Nat} {pt : Option gp_P} (h : gp_bR k M s) (hT : gp_sm1 s.2.1 T') (e4 : ∀ i, M'.1 4 i = if i = 3 then gp_eO pt else M.1 4 i) (e5 : M'.1 5 = M.1 5) (e6 : M'.1 6 = M.1 6) (ek : ∀ c, k + 1 ≤ c → c ≤ k + 4 → M'.1 c = M.1 c) : gp_bR k M' (d, T', s.2.2.1, pt) := by
  obtain ⟨h1, h2, h3, h4, h5, h6, h7, h8, h9⟩ := h
  have hmd := hT.md
  refine ⟨?_, ?_, ?_, ?_, h5.fr fun i hi => ⟨by rw [e5], by rw [e6]⟩, ?_, ?_, ?_, ?_⟩
  · rw [e4, if_neg (by omega)]; exact h1
  · rw [e4, if_pos rfl]
  · rw [e4, if_neg (by omega), h3]; show nI s.2.1.1 = nI T'.1; rw [hT.1]
  · rw [e4, if_neg (by omega), h4]; show _ = nI (gp_md T'); rw [hmd]
  · rw [ek _ (by omega) (by omega)]; show M.1 (k + 1) T'.1 = nI (T'.2.2 1 T'.1); rw [hT.1, hT.2.2.1 1 (by omega)]; exact h6
  · rw [ek _ (by omega) (by omega)]; show M.1 (k + 2) T'.1 = nI (T'.2.2 2 T'.1); rw [hT.1, hT.2.2.1 2 (by omega)]; exact h7
  · rw [ek _ (by omega) (by omega)]; show M.1 (k + 3) T'.1 = nI (T'.2.2 3 T'.1); rw [hT.1, hT.2.2.1 3 (by omega)]; exact h8
  · rw [ek _ (by omega) (by omega)]; show M.1 (k + 4) T'.1 = T'.2.1 T'.1; rw [hT.1, hT.2.1]; exact h9
theorem gp_sufC (hk : 6 < k) (hw : gp_wS s) (h3 : s.1 = 3) {c : Nat} (hc : c = 42 ∨ c = 43 ∨ c = 63) (h : gp_bC k M s) : ∃ M', f1_take k (nI c) M = some M' ∧ gp_bL k M M' ∧ gp_bC k M' (gp_suf s c) := by
  have hcc := hw.2.2.1 (by omega)
  obtain ⟨hT, hR⟩ := h
  have hR := hR (by omega)
  have b2 := hR.2.1
  cases ep : s.2.2.2 with
  | none => exact absurd ep (hw.2.2.2.1 (by omega))
  | some p =>
    have hp : gp_sP p := gp_okO_s hcc.2.2.2.2.2 ep
    have b2 : M.1 4 3 = nI (gp_pN p) := by rw [b2, ep]; rfl
    have hs : gp_suf s c = (3, (if c = 63 then s.2.1 else gp_lnk s.2.1 p.2.1 p.1), s.2.2.1, some (p.1, p.2.1, (if c = 43 then p.2.2 else true))) := by
      unfold gp_suf
      rw [ep]
    rw [hs]
    obtain ⟨M1, l1, l2, l3, l4⟩ := gp_linkC (f := p.1) hk hcc.1 hR.2.2.2.1 hp.2 hT
    have l31 : M1.1 4 3 = nI (gp_pN p) := by rw [l3 4 (by omega)]; exact b2
    have hsm := gp_lnk_sm s.2.1 p.2.1 p.1 hcc.1
    have lL : gp_bL k M M1 := ⟨l2, fun c _ _ _ h => l3 c (by omega)⟩
    rcases hc with rfl | rfl | rfl
    · rw [if_neg (by decide), if_neg (by decide)]
      refine ⟨gz_w M1 4 3 (nI (gp_pN (p.1, p.2.1, true))), ?_, lL.trans (gp_bL.w _ (by omega)), ?_, fun _ => ?_⟩
      · unfold f1_take
        rw [if_neg (by decide), if_neg (by decide), if_pos (by rfl), b2, gp_lOf hp, gp_eB2, b2, gp_fOf hp, gp_eB2, l1, gp_eB, l31, show (1048576 : Int32) = nI 1048576 from rfl, gp_or, gp_pN_4 hp]
        rfl
      · exact l4.fr5 (fun c h1 h2 => by rw [gp_wc _ (by omega)])
      · refine gp_bR_part hR hsm (fun i => ?_) (by rw [gp_wc _ (by omega), l3 5 (by omega)]) (by rw [gp_wc _ (by omega), l3 6 (by omega)]) (fun c h1 h2 => by rw [gp_wc _ (by omega), l3 c (by omega)])
        by_cases hi : i = 3
        · rw [hi, gp_gs, if_pos rfl]; rfl
        · rw [gp_gn (by omega), if_neg hi, l3 4 (by omega)]
    · rw [if_neg (by decide), if_pos (by rfl)]
      refine ⟨M1, ?_, lL, l4, fun _ => ?_⟩
      · unfold f1_take
        rw [if_neg (by decide), if_neg (by decide), if_neg (by decide), if_pos (by rfl), b2, gp_lOf hp, gp_eB2, b2, gp_fOf hp, gp_eB2, l1, gp_eB]
      · refine gp_bR_part hR hsm (fun i => ?_) (by rw [l3 5 (by omega)]) (by rw [l3 6 (by omega)]) (fun c h1 h2 => by rw [l3 c (by omega)])
        by_cases hi : i = 3
        · rw [hi, if_pos rfl, l31]; rfl
        · rw [if_neg hi, l3 4 (by omega)]
    · rw [if_pos (by rfl), if_neg (by decide)]
      refine ⟨gz_w M 4 3 (nI (gp_pN (p.1, p.2.1, true))), ?_, gp_bL.w _ (by omega), ?_, fun _ => ?_⟩
      · unfold f1_take
        rw [if_neg (by decide), if_neg (by decide), if_neg (by decide), if_neg (by decide), if_pos (by rfl), b2, show (1048576 : Int32) = nI 1048576 from rfl, gp_or, gp_pN_4 hp]
        rfl
      · exact hT.fr5 (fun c h1 h2 => by rw [gp_wc _ (by omega)])
      · refine gp_bR_part hR (gp_sm1.refl _) (fun i => ?_) (by rw [gp_wc _ (by omega)]) (by rw [gp_wc _ (by omega)]) (fun c h1 h2 => by rw [gp_wc _ (by omega)])
        by_cases hi : i = 3
        · rw [hi, gp_gs, if_pos rfl]; rfl
        · rw [gp_gn (by omega), if_neg hi]
theorem gp_brkC (hk : 6 < k) (hw : gp_wS s) (h1 : 1 ≤ s.1) (hl : s.2.2.1.length ≤ 6) (h : gp_bC k M s) : ∃ M', f1_take k (nI 40) M = some M' ∧ gp_bL k M M' ∧ gp_bC k M' (gp_brk s) := by
  obtain ⟨f1, f2, f3, ch, wh, L, eL, eP1, eP2, eP3, eP4⟩ := gp_eP_f hw h1
  obtain ⟨M1, e1, e2, e3, e4⟩ := gp_epC hk hw h1 h
  have hR := e4 (by rw [eP3]; omega)
  obtain ⟨b1, b2, b3, b4, b5, b6, b7, b8, b9⟩ := hR
  have hlen := gp_eP_len s
  have hlp : 0 < s.2.2.1.length := by rw [eL]; simp
  unfold gp_brk
  generalize hLL : (gp_eP s).2.2.1 = LL at *
  rw [eP2] at b2
  obtain ⟨n, hn⟩ : ∃ n, LL.length = n + 1 := ⟨LL.length - 1, by omega⟩
  have b1 : M1.1 4 2 = nI n := by rw [b1, hn]; rfl
  refine ⟨gz_w (gz_w (gz_w M1 4 2 (nI (n + 1))) 5 (n + 1) (-1)) 6 (n + 1) (-1), ?_, ((e2.trans (gp_bL.w _ (by omega))).trans (gp_bL.w _ (by omega))).trans (gp_bL.w _ (by omega)), ?_, fun _ => ⟨?_, ?_, ?_, ?_, ⟨?_, ?_, b5.fr fun i hi => ⟨?_, ?_⟩⟩, ?_, ?_, ?_, ?_⟩⟩
  · unfold f1_take
    rw [if_pos (by rfl), e1, gp_eB]
    unfold f1_openBracket
    rw [b1, if_neg (show ¬ (6 : Int32) ≤ nI n from nI_ge (b := 6) (by omega) (by omega)), nI_1, gp_eL, gp_gs, gp_ckb (show n + 1 < 7 by omega) (by omega), nI_clamp (by omega), gp_eL, gp_gn (by omega), gp_gs, gp_ckb (show n + 1 < 7 by omega) (by omega), nI_clamp (by omega)]
    rfl
  · exact e3.fr5 (fun c h1 h2 => by rw [gp_wc _ (by omega), gp_wc _ (by omega), gp_wc _ (by omega)])
  · rw [gp_gn (by omega), gp_gn (by omega), gp_gs]
    show _ = nI (((none, none) :: LL).length - 1)
    rw [List.length_cons, hn]
    rfl
  · rw [gp_gn (by omega), gp_gn (by omega), gp_gn (by omega), b2]
  · rw [gp_gn (by omega), gp_gn (by omega), gp_gn (by omega)]; exact b3
  · rw [gp_gn (by omega), gp_gn (by omega), gp_gn (by omega)]; exact b4
  · rw [hn, gp_gn (by omega), gp_gs]; rfl
  · rw [hn, gp_gs]; rfl
  · rw [gp_gn (by omega), gp_gn (by omega), gp_gn (by omega)]
  · rw [gp_gn (by omega), gp_gn (by omega), gp_gn (by omega)]
  · rw [gp_gn (by omega), gp_gn (by omega), gp_gn (by omega)]; exact b6
  · rw [gp_gn (by omega), gp_gn (by omega), gp_gn (by omega)]; exact b7
  · rw [gp_gn (by omega), gp_gn (by omega), gp_gn (by omega)]; exact b8
  · rw [gp_gn (by omega), gp_gn (by omega), gp_gn (by omega)]; exact b9
theorem gp_clsC (hk : 6 < k) (hw : gp_wS s) (h3 : s.1 = 3) (hl : ¬ s.2.2.1.length ≤ 1) (h : gp_bC k M s) : ∃ M', f1_take k (nI 41) M = some M' ∧ gp_bL k M M' ∧ gp_bC k M' (gp_cls s) := by
  obtain ⟨ch, wh, L, eL, eC⟩ := gp_eCh_f hw (by omega)
  obtain ⟨M1, e1, e2, e3, e4⟩ := gp_ecC hk hw (by omega) h
  have hlen := hw.1.2.1
  unfold gp_cls
  rw [eC] at e3 e4 ⊢
  obtain ⟨b1, b2, b3, b4, ⟨b51, b52, b53⟩, b6, b7, b8, b9⟩ := e4 (by show 1 ≤ s.1; omega)
  rw [eL] at hl hlen
  obtain ⟨n, hn⟩ : ∃ n, L.length = n + 1 := ⟨L.length - 1, by rw [List.length_cons] at hl; omega⟩
  rw [List.length_cons, hn] at hlen
  have q1 : M1.1 4 2 = nI (n + 1) := by rw [b1]; show nI L.length = _; rw [hn]
  dsimp only at b52 ⊢
  rw [hn] at b52
  generalize gp_unO wh (gp_mgO ch s.2.2.2) = w at *
  refine ⟨gz_w (gz_w M1 4 3 (gp_eO w)) 4 2 (nI n), ?_, (e2.trans (gp_bL.w _ (by omega))).trans (gp_bL.w _ (by omega)), ?_, fun _ => ⟨?_, ?_, ?_, ?_, b53.fr fun i hi => ⟨?_, ?_⟩, ?_, ?_, ?_, ?_⟩⟩
  · unfold f1_take
    rw [if_neg (by decide), if_pos (by rfl), e1, gp_eB]
    unfold f1_closeBracket
    rw [q1, gp_ckb (show n + 1 < 7 by omega) (by omega), nI_clamp (by omega), b52, gp_eL, gp_gn (by omega), q1, if_neg (nI_nle (by omega) (by omega)), nI_pred]
    rfl
  · exact e3.fr5 (fun c h1 h2 => by rw [gp_wc _ (by omega), gp_wc _ (by omega)])
  · rw [gp_gs]
    show _ = nI (L.length - 1)
    rw [hn]
    rfl
  · rw [gp_gn (by omega), gp_gs]
  · rw [gp_gn (by omega), gp_gn (by omega)]; exact b3
  · rw [gp_gn (by omega), gp_gn (by omega)]; exact b4
  · rw [gp_gn (by omega), gp_gn (by omega)]
  · rw [gp_gn (by omega), gp_gn (by omega)]
  · rw [gp_gn (by omega), gp_gn (by omega)]; exact b6
  · rw [gp_gn (by omega), gp_gn (by omega)]; exact b7
  · rw [gp_gn (by omega), gp_gn (by omega)]; exact b8
  · rw [gp_gn (by omega), gp_gn (by omega)]; exact b9
end
end
section
/-! rules told as a text: a rule begins, an act, a step in the component -/
section
variable {k : Nat} {M M' : gz_M} {s : gp_S}
theorem gp_begC (hk : 6 < k) (ho : gp_opn s) {c : Nat} (hc : 48 ≤ c ∧ c ≤ 51) (h : gp_bC k M s) : ∃ M', f1_beginRule k (nI c - 48) M = some M' ∧ gp_bL k M M' ∧ gp_bC k M' (gp_beg s c) := by
  have h7 := ho.2.2.1
  obtain ⟨hT, _⟩ := h
  have hT := hT
  have e48 : nI c - 48 = nI (c - 48) := gp_subI (b := 48) hc.1
  have hmd : gp_md (gp_beg s c).2.1 = c - 48 := by
    unfold gp_md gp_beg
    dsimp only [gp_set]
    rw [if_neg (by omega), if_neg (by omega), if_pos ⟨rfl, rfl⟩]
  have oth : ∀ a j, ¬ (j = s.2.1.1) ∨ 3 < a → (gp_beg s c).2.1.2.2 a j = s.2.1.2.2 a j := fun a j hj => by
    unfold gp_beg
    dsimp only [gp_set]
    rw [if_neg (by omega), if_neg (by omega), if_neg (by omega)]
  have othD : ∀ j, ¬ (j = s.2.1.1) → (gp_beg s c).2.1.2.1 j = s.2.1.2.1 j := fun j hj => by
    unfold gp_beg
    dsimp only [gp_setD]
    rw [if_neg hj]
  generalize hm : c - 48 = m at *
  have hm4 : m < 4 := by omega
  generalize hr : s.2.1.1 = r at *
  refine ⟨gz_w (gz_w (gz_w (gz_w (gz_w (gz_w (gz_w (gz_w (gz_w (gz_w M 4 4 (nI r)) 4 5 (nI m)) (k + 1) r (nI m)) (k + 2) r 0) (k + 3) r 0) (k + 4) r (-1)) 4 2 0) 4 3 (-1)) 5 0 (-1)) 6 0 (-1), ?_, ?_, ?_, fun _ => ?_⟩
  · unfold f1_beginRule
    rw [hT.1, hr, if_neg (show ¬ (8 : Int32) ≤ nI r from nI_ge (b := 8) (by omega) (by omega)), e48]
    unfold f1_beginRule_19
    rw [gp_eL, gp_isMode hm4, gp_eB2, if_neg (by decide)]
    unfold f1_beginRule_35
    rw [gp_eL, gp_gn (by omega), gp_gs, gp_gs, gp_ckb (show r < 8 by omega) (by omega), nI_clamp (by omega), gp_eL, gp_gn (by omega), gp_gn (by omega), gp_gs, gp_ckb (show r < 8 by omega) (by omega), nI_clamp (by omega), gp_eL, gp_gn (by omega), gp_gn (by omega), gp_gn (by omega), gp_gs, gp_ckb (show r < 8 by omega) (by omega), nI_clamp (by omega), gp_eL, gp_gn (by omega), gp_gn (by omega), gp_gn (by omega), gp_gn (by omega), gp_gs, gp_ckb (show r < 8 by omega) (by omega), nI_clamp (by omega), gp_eL, gp_eL, gp_eL, show gz_inb 0 7 = true from gp_inb (i := 0) (by omega) (by omega), gp_eC]
    rfl
  · exact (((((((((gp_bL.w _ (by omega)).trans (gp_bL.w _ (by omega))).trans (gp_bL.w _ (by omega))).trans (gp_bL.w _ (by omega))).trans (gp_bL.w _ (by omega))).trans (gp_bL.w _ (by omega))).trans (gp_bL.w _ (by omega))).trans (gp_bL.w _ (by omega))).trans (gp_bL.w _ (by omega))).trans (gp_bL.w _ (by omega))
  · have rd : ∀ a i, a ≠ 4 → a ≠ 5 → a ≠ 6 → (i ≠ r ∨ (a ≠ k + 1 ∧ a ≠ k + 2 ∧ a ≠ k + 3 ∧ a ≠ k + 4)) → (gz_w (gz_w (gz_w (gz_w (gz_w (gz_w (gz_w (gz_w (gz_w (gz_w M 4 4 (nI r)) 4 5 (nI m)) (k + 1) r (nI m)) (k + 2) r 0) (k + 3) r 0) (k + 4) r (-1)) 4 2 0) 4 3 (-1)) 5 0 (-1)) 6 0 (-1)).1 a i = M.1 a i := fun a i h1 h2 h3 h4 => by
      rw [gp_gn (by omega), gp_gn (by omega), gp_gn (by omega), gp_gn (by omega), gp_gn (by omega), gp_gn (by omega), gp_gn (by omega), gp_gn (by omega), gp_gn (by omega), gp_gn (by omega)]
    refine ⟨?_, fun j hj => ?_, fun y hy => ?_⟩
    · rw [rd _ _ (by omega) (by omega) (by omega) (by omega), hT.1]
      show nI s.2.1.1 = nI s.2.1.1
      rfl
    · have hj : j < s.2.1.1 := hj
      obtain ⟨c1, c2, c3, c4, c5, c6⟩ := hT.2.1 j hj
      rw [rd _ _ (by omega) (by omega) (by omega) (by omega), rd _ _ (by omega) (by omega) (by omega) (by omega), rd _ _ (by omega) (by omega) (by omega) (by omega), rd _ _ (by omega) (by omega) (by omega) (by omega), rd _ _ (by omega) (by omega) (by omega) (by omega), rd _ _ (by omega) (by omega) (by omega) (by omega)]
      rw [oth 1 j (by omega), oth 2 j (by omega), oth 3 j (by omega), oth 5 j (by omega), oth 6 j (by omega), othD j (by omega)]
      exact ⟨c1, c2, c3, c4, c5, c6⟩
    · obtain ⟨c1, c2, c3, c4⟩ := hT.2.2 y hy
      refine ⟨?_, ?_, fun x hx => ?_, fun x hx => ?_⟩
      · rw [rd _ _ (by omega) (by omega) (by omega) (by omega), oth _ _ (by omega)]; exact c1
      · rw [rd _ _ (by omega) (by omega) (by omega) (by omega), oth _ _ (by omega)]; exact c2
      · rw [rd _ _ (by omega) (by omega) (by omega) (by omega), oth _ _ (by omega)]; exact c3 x hx
      · rw [rd _ _ (by omega) (by omega) (by omega) (by omega), oth _ _ (by omega)]; exact c4 x hx
  · have hr1 : (gp_beg s c).2.1.1 = r := hr
    have hl : (gp_beg s c).2.2.1 = [(none, none)] := rfl
    unfold gp_bR
    rw [hr1, hl, hmd]
    refine ⟨?_, ?_, ?_, ?_, ⟨?_, ?_, trivial⟩, ?_, ?_, ?_, ?_⟩
    · rw [gp_gn (by omega), gp_gn (by omega), gp_gn (by omega), gp_gs]; rfl
    · rw [gp_gn (by omega), gp_gn (by omega), gp_gs]; rfl
    · rw [gp_gn (by omega), gp_gn (by omega), gp_gn (by omega), gp_gn (by omega), gp_gn (by omega), gp_gn (by omega), gp_gn (by omega), gp_gn (by omega), gp_gn (by omega), gp_gs]
    · rw [gp_gn (by omega), gp_gn (by omega), gp_gn (by omega), gp_gn (by omega), gp_gn (by omega), gp_gn (by omega), gp_gn (by omega), gp_gn (by omega), gp_gs]
    · show (gz_w _ 6 0 (-1)).1 5 0 = _
      rw [gp_gn (by omega), gp_gs]; rfl
    · show (gz_w _ 6 0 (-1)).1 6 0 = _
      rw [gp_gs]; rfl
    · rw [gp_gn (by omega), gp_gn (by omega), gp_gn (by omega), gp_gn (by omega), gp_gn (by omega), gp_gn (by omega), gp_gn (by omega), gp_gs]
      unfold gp_beg
      dsimp only [gp_set]
      rw [hr, if_neg (by omega), if_neg (by omega), if_pos ⟨rfl, rfl⟩, hm]
    · rw [gp_gn (by omega), gp_gn (by omega), gp_gn (by omega), gp_gn (by omega), gp_gn (by omega), gp_gn (by omega), gp_gs]
      unfold gp_beg
      dsimp only [gp_set]
      rw [hr, if_neg (by omega), if_pos ⟨rfl, rfl⟩]
      rfl
    · rw [gp_gn (by omega), gp_gn (by omega), gp_gn (by omega), gp_gn (by omega), gp_gn (by omega), gp_gs]
      unfold gp_beg
      dsimp only [gp_set]
      rw [hr, if_pos ⟨rfl, rfl⟩]
      rfl
    · rw [gp_gn (by omega), gp_gn (by omega), gp_gn (by omega), gp_gn (by omega), gp_gs]
      unfold gp_beg
      dsimp only [gp_setD]
      rw [hr, if_pos rfl]
theorem gp_actC (hk : 6 < k) (hw : gp_wS s) (h1 : 1 ≤ s.1) (d a : Nat) (hd : 1 ≤ d) (h : gp_bC k M s) : gp_bC k (gz_w M (k + 3) s.2.1.1 (nI a)) (gp_act1 s d a) := by
  obtain ⟨hT, hR⟩ := h
  obtain ⟨b1, b2, b3, b4, b5, b6, b7, b8, b9⟩ := hR h1
  have hmd : gp_md (gp_act1 s d a).2.1 = gp_md s.2.1 := by
    unfold gp_md gp_act1
    dsimp only [gp_set]
    rw [if_neg (by omega)]
  have oth : ∀ c j, ¬ (c = 3 ∧ j = s.2.1.1) → (gp_act1 s d a).2.1.2.2 c j = s.2.1.2.2 c j := fun c j hj => by
    unfold gp_act1
    dsimp only [gp_set]
    rw [if_neg hj]
  have hat : (gp_act1 s d a).2.1.2.2 3 s.2.1.1 = a := by
    unfold gp_act1
    dsimp only [gp_set]
    rw [if_pos ⟨rfl, rfl⟩]
  refine ⟨⟨?_, fun j hj => ?_, fun y hy => ?_⟩, fun _ => ⟨?_, ?_, ?_, ?_, b5.fr fun i hi => ⟨?_, ?_⟩, ?_, ?_, ?_, ?_⟩⟩
  · rw [gp_gn (by omega)]; exact hT.1
  · have hj : j < s.2.1.1 := hj
    rw [gp_gn (by omega), gp_gn (by omega), gp_gn (by omega), gp_gn (by omega), gp_gn (by omega), gp_gn (by omega), oth 1 j (by omega), oth 2 j (by omega), oth 3 j (by omega), oth 5 j (by omega), oth 6 j (by omega)]
    exact hT.2.1 j hj
  · obtain ⟨c1, c2, c3, c4⟩ := hT.2.2 y hy
    refine ⟨?_, ?_, fun x hx => ?_, fun x hx => ?_⟩
    · rw [gp_gn (by omega), oth _ _ (by omega)]; exact c1
    · rw [gp_gn (by omega), oth _ _ (by omega)]; exact c2
    · rw [gp_gn (by omega), oth _ _ (by omega)]; exact c3 x hx
    · rw [gp_gn (by omega), oth _ _ (by omega)]; exact c4 x hx
  · rw [gp_gn (by omega)]; exact b1
  · rw [gp_gn (by omega)]; exact b2
  · rw [gp_gn (by omega)]; exact b3
  · rw [gp_gn (by omega), hmd]; exact b4
  · rw [gp_gn (by omega)]
  · rw [gp_gn (by omega)]
  · show (gz_w M (k + 3) s.2.1.1 (nI a)).1 (k + 1) s.2.1.1 = nI ((gp_act1 s d a).2.1.2.2 1 s.2.1.1)
    rw [gp_gn (by omega), oth _ _ (by omega)]; exact b6
  · show (gz_w M (k + 3) s.2.1.1 (nI a)).1 (k + 2) s.2.1.1 = nI ((gp_act1 s d a).2.1.2.2 2 s.2.1.1)
    rw [gp_gn (by omega), oth _ _ (by omega)]; exact b7
  · show (gz_w M (k + 3) s.2.1.1 (nI a)).1 (k + 3) s.2.1.1 = nI ((gp_act1 s d a).2.1.2.2 3 s.2.1.1)
    rw [gp_gs, hat]
  · show (gz_w M (k + 3) s.2.1.1 (nI a)).1 (k + 4) s.2.1.1 = s.2.1.2.1 s.2.1.1
    rw [gp_gn (by omega)]; exact b9
theorem gp_digC (hk : 6 < k) (h1 : 1 ≤ s.1) (v : Int32) (h : gp_bC k M s) : gp_bC k (gz_w M (k + 4) s.2.1.1 v) (5, (s.2.1.1, gp_setD s.2.1.2.1 s.2.1.1 v, s.2.1.2.2), s.2.2.1, s.2.2.2) := by
  obtain ⟨hT, hR⟩ := h
  obtain ⟨b1, b2, b3, b4, b5, b6, b7, b8, b9⟩ := hR h1
  refine ⟨⟨?_, fun j hj => ?_, fun y hy => ?_⟩, fun _ => ⟨?_, ?_, ?_, ?_, b5.fr fun i hi => ⟨?_, ?_⟩, ?_, ?_, ?_, ?_⟩⟩
  · rw [gp_gn (by omega)]; exact hT.1
  · have hj : j < s.2.1.1 := hj
    rw [gp_gn (by omega), gp_gn (by omega), gp_gn (by omega), gp_gn (by omega), gp_gn (by omega), gp_gn (by omega)]
    obtain ⟨c1, c2, c3, c4, c5, c6⟩ := hT.2.1 j hj
    refine ⟨c1, c2, c3, ?_, c5, c6⟩
    rw [c4]
    dsimp only [gp_setD]
    rw [if_neg (by omega)]
  · obtain ⟨c1, c2, c3, c4⟩ := hT.2.2 y hy
    refine ⟨?_, ?_, fun x hx => ?_, fun x hx => ?_⟩
    · rw [gp_gn (by omega)]; exact c1
    · rw [gp_gn (by omega)]; exact c2
    · rw [gp_gn (by omega)]; exact c3 x hx
    · rw [gp_gn (by omega)]; exact c4 x hx
  · rw [gp_gn (by omega)]; exact b1
  · rw [gp_gn (by omega)]; exact b2
  · rw [gp_gn (by omega)]; exact b3
  · rw [gp_gn (by omega)]; exact b4
  · rw [gp_gn (by omega)]
  · rw [gp_gn (by omega)]
  · dsimp only
    rw [gp_gn (by omega)]; exact b6
  · dsimp only
    rw [gp_gn (by omega)]; exact b7
  · dsimp only
    rw [gp_gn (by omega)]; exact b8
  · dsimp only [gp_setD]
    rw [gp_gs, if_pos rfl]
end
end
section
/-! rules told as a text: the component's table is the machine's -/
section
variable {k k1 : Nat} {M M' : gz_M} {s s' : gp_S} {t : List Nat}
theorem gp_bC_d {d : Nat} {s : gp_S} (h : gp_bC k M s) (h1 : 1 ≤ s.1) : gp_bC k M (d, s.2.1, s.2.2.1, s.2.2.2) := ⟨h.1, fun _ => h.2 h1⟩
theorem gp_bStep (hk : 6 < k) (hw : gp_wS s) {c : Nat} (hc : c < 256) (h : gp_bC k M s) (e : gp_stp s c = some s') (hu : ∀ m, m < 4 → s'.2.1.2.2 7 m ≤ 10) : ∃ M', (if s.1 = 0 then f1_beginRule k (nI c - 48) M else if c = 59 then f1_endRule k M else if gp_isL c = true then f1_addLetter k (nI c) M else f1_take k (nI c) M) = some M' ∧ gp_bL k M M' ∧ gp_bC k M' s' := by
  have ho := hw.1
  have h5 := ho.1
  have h7 := ho.2.2.1
  have hst := gp_stp_u hw hc e
  have hcases : s.1 = 0 ∨ s.1 = 1 ∨ s.1 = 2 ∨ s.1 = 3 ∨ s.1 = 4 ∨ s.1 = 5 := by omega
  have notL : ∀ n, n < 46 ∨ (46 < n ∧ n < 97) ∨ 104 < n → ¬ gp_isL n = true := fun n hn => by
    unfold gp_isL
    simp
    omega
  have nx : gp_nxt s = some s' → 3 ≤ s.1 → s.1 ≠ 4 → s.2.2.1.length ≤ 1 → c = 59 → ∃ M', (if s.1 = 0 then f1_beginRule k (nI c - 48) M else if c = 59 then f1_endRule k M else if gp_isL c = true then f1_addLetter k (nI c) M else f1_take k (nI c) M) = some M' ∧ gp_bL k M M' ∧ gp_bC k M' s' := by
    intro e h3 h4 hl h59
    obtain ⟨a1, a2, a3, a4⟩ := gp_nxt_1 e
    obtain ⟨M1, e1, e2, e3⟩ := gp_erC hk hw h3 hl h
    rw [if_neg (by omega), if_pos h59]
    exact ⟨M1, e1, e2, by rw [a4]; exact e3, fun h => by omega⟩
  have inP : gp_inP s c = some s' → s.1 = 2 ∨ s.1 = 3 → ∃ M', (if s.1 = 0 then f1_beginRule k (nI c - 48) M else if c = 59 then f1_endRule k M else if gp_isL c = true then f1_addLetter k (nI c) M else f1_take k (nI c) M) = some M' ∧ gp_bL k M M' ∧ gp_bC k M' s' := by
    intro e h23
    rcases (gp_inP_opn ho (by omega) e).2.2 with ⟨l1, _⟩ | ⟨l1, l2, l3, _⟩
    · have h59 : c ≠ 59 := fun h => by rw [h] at l1; exact absurd l1 (by decide)
      rw [if_neg (by omega), if_neg h59, if_pos l1]
      unfold gp_inP at e
      rw [if_pos l1] at e
      have e := Option.some.inj e
      have hmd4 := (hw.2.2.1 (by omega)).1
      have hum := hst.1 (gp_md s.2.1)
      rw [if_pos ⟨by omega, l1, rfl⟩] at hum
      have := hu _ hmd4
      rw [← e]
      exact gp_letC hk hw h23 hc h (by omega)
    · have hnl : ¬ gp_isL c = true := by rw [l1]; decide
      rw [if_neg (by omega), if_neg (by omega), if_neg hnl]
      unfold gp_inP at e
      rw [if_neg hnl, if_pos ⟨l2, l3⟩] at e
      have e := Option.some.inj e
      rw [← e, l2]
      exact gp_brkC hk hw (by omega) l3 h
  have tk : s.1 ≠ 0 → c ≠ 59 → ¬ gp_isL c = true → (∃ M', f1_take k (nI c) M = some M' ∧ gp_bL k M M' ∧ gp_bC k M' s') → ∃ M', (if s.1 = 0 then f1_beginRule k (nI c - 48) M else if c = 59 then f1_endRule k M else if gp_isL c = true then f1_addLetter k (nI c) M else f1_take k (nI c) M) = some M' ∧ gp_bL k M M' ∧ gp_bC k M' s' := fun h1 h2 h3 h4 => by
    rw [if_neg h1, if_neg h2, if_neg h3]
    exact h4
  -- what is no mark of a part goes to the act
  have toA : c ≠ 40 → c ≠ 41 → c ≠ 42 → c ≠ 43 → c ≠ 63 → c ≠ 124 → f1_take k (nI c) M = f1_takeAct k (nI c) M := fun g1 g2 g3 g4 g5 g6 => by
    have nb : ∀ n : Nat, n < 2 ^ 31 → c ≠ n → ¬ nI c = nI n := fun n hn h e => h ((nI_eq (by omega) hn).mp e)
    unfold f1_take
    rw [if_neg (show ¬ nI c = 40 from nb 40 (by omega) g1), if_neg (show ¬ nI c = 41 from nb 41 (by omega) g2), if_neg (show ¬ nI c = 42 from nb 42 (by omega) g3), if_neg (show ¬ nI c = 43 from nb 43 (by omega) g4), if_neg (show ¬ nI c = 63 from nb 63 (by omega) g5), if_neg (show ¬ nI c = 124 from nb 124 (by omega) g6)]
    cases f1_takeAct k (nI c) M <;> rfl
  rcases hcases with h0 | h0 | h0 | h0 | h0 | h0
  · unfold gp_stp at e
    rw [if_pos h0] at e
    split at e
    · rename_i hd
      have e := Option.some.inj e
      rw [if_pos h0, ← e]
      exact gp_begC hk ho hd h
    · cases e
  · unfold gp_stp at e
    rw [if_neg (by omega), if_pos h0] at e
    split at e
    · rename_i hd
      have e := Option.some.inj e
      refine tk (by omega) (by omega) (notL c (by omega)) ⟨M, ?_, gp_bL.refl k M, by rw [← e]; exact gp_bC_d h (by omega)⟩
      rw [toA (by omega) (by omega) (by omega) (by omega) (by omega) (by omega), hd]
      unfold f1_takeAct
      rw [if_neg (by decide), if_neg (by decide), if_neg (by decide), if_pos (by rfl)]
    · cases e
  · unfold gp_stp at e
    rw [if_neg (by omega), if_neg (by omega), if_pos h0] at e
    exact inP e (Or.inl h0)
  · unfold gp_stp at e
    rw [if_neg (by omega), if_neg (by omega), if_neg (by omega), if_pos h0] at e
    split at e
    · exact inP e (Or.inr h0)
    · rename_i hnl
      have hl : ¬ gp_isL c = true := fun h => hnl (Or.inl h)
      split at e
      · rename_i hd
        have e := Option.some.inj e
        refine tk (by omega) (by omega) hl ?_
        rw [← e]
        exact gp_sufC hk hw h0 hd h
      · split at e
        · rename_i hd
          have e := Option.some.inj e
          obtain ⟨M1, e1, e2, e3⟩ := gp_ecC hk hw (by omega) h
          obtain ⟨ch', wh', L', e1', e6⟩ := gp_eCh_f hw (by omega)
          refine tk (by omega) (by omega) hl ⟨M1, ?_, e2, ?_⟩
          · unfold f1_take
            rw [hd, if_neg (by decide), if_neg (by decide), if_neg (by decide), if_neg (by decide), if_neg (by decide), if_pos (by rfl), e1]
            rfl
          · rw [← e]
            rw [e6] at e3 ⊢
            exact gp_bC_d (s := (s.1, (gp_eP s).2.1, (none, gp_unO wh' (gp_mgO ch' s.2.2.2)) :: L', none)) e3 (by show 1 ≤ s.1; omega)
        · split at e
          · rename_i hd
            split at e
            · cases e
            · rename_i hl1
              have e := Option.some.inj e
              refine tk (by omega) (by omega) hl ?_
              rw [← e, hd]
              exact gp_clsC hk hw h0 hl1 h
          · split at e
            · rename_i hl1
              have b3 := (h.2 (by omega)).2.2.1
              have act : ∀ (d a : Nat) (v : Int32), 1 ≤ d → v = nI a → c ≠ 59 → gp_act1 s d a = s' → f1_take k (nI c) M = some (gz_w M (k + 3) s.2.1.1 v) → ∃ M', (if s.1 = 0 then f1_beginRule k (nI c - 48) M else if c = 59 then f1_endRule k M else if gp_isL c = true then f1_addLetter k (nI c) M else f1_take k (nI c) M) = some M' ∧ gp_bL k M M' ∧ gp_bC k M' s' := by
                intro d a v hd hv h59 hs ht
                refine tk (by omega) h59 hl ⟨_, ht, gp_bL.w _ (by omega), ?_⟩
                rw [← hs, hv]
                exact gp_actC hk hw (by omega) d a hd h
              split at e
              · rename_i hd
                refine act 5 1 1 (by omega) rfl (by omega) (Option.some.inj e) ?_
                rw [toA (by omega) (by omega) (by omega) (by omega) (by omega) (by omega), hd]
                unfold f1_takeAct
                rw [if_pos (by rfl), b3, gp_ckb (show s.2.1.1 < 8 by omega) (by omega), nI_clamp (by omega)]
                rfl
              · split at e
                · rename_i hd
                  refine act 4 2 2 (by omega) rfl (by omega) (Option.some.inj e) ?_
                  rw [toA (by omega) (by omega) (by omega) (by omega) (by omega) (by omega), hd]
                  unfold f1_takeAct
                  rw [if_neg (by decide), if_pos (by rfl), b3, gp_ckb (show s.2.1.1 < 8 by omega) (by omega), nI_clamp (by omega)]
                  rfl
                · split at e
                  · rename_i hd
                    refine act 4 3 3 (by omega) rfl (by omega) (Option.some.inj e) ?_
                    rw [toA (by omega) (by omega) (by omega) (by omega) (by omega) (by omega), hd]
                    unfold f1_takeAct
                    rw [if_neg (by decide), if_neg (by decide), if_pos (by rfl), b3, gp_ckb (show s.2.1.1 < 8 by omega) (by omega), nI_clamp (by omega)]
                    rfl
                  · split at e
                    · exact nx e (by omega) (by omega) (by assumption) (by assumption)
                    · cases e
            · cases e
  · unfold gp_stp at e
    rw [if_neg (by omega), if_neg (by omega), if_neg (by omega), if_neg (by omega), if_pos h0] at e
    split at e
    · rename_i hd
      have b3 := (h.2 (by omega)).2.2.1
      have nb : ∀ n : Nat, n < 2 ^ 31 → c ≠ n → ¬ nI c = nI n := fun n hn h e => h ((nI_eq (by omega) hn).mp e)
      refine tk (by omega) (by omega) (notL c (by omega)) ⟨gz_w M (k + 4) s.2.1.1 (nI (c - 48)), ?_, gp_bL.w _ (by omega), ?_⟩
      · rw [toA (by omega) (by omega) (by omega) (by omega) (by omega) (by omega)]
        unfold f1_takeAct
        rw [if_neg (show ¬ nI c = 60 from nb 60 (by omega) (by omega)), if_neg (show ¬ nI c = 62 from nb 62 (by omega) (by omega)), if_neg (show ¬ nI c = 61 from nb 61 (by omega) (by omega)), if_neg (show ¬ nI c = 58 from nb 58 (by omega) (by omega)), b3, gp_ckb (show s.2.1.1 < 8 by omega) (by omega), nI_clamp (by omega), show nI c - 48 = nI (c - 48) from gp_subI (b := 48) hd.1]
        rfl
      · rw [← Option.some.inj e]
        exact gp_digC hk (by omega) _ h
    · cases e
  · unfold gp_stp at e
    rw [if_neg (by omega), if_neg (by omega), if_neg (by omega), if_neg (by omega), if_neg (by omega)] at e
    split at e
    · exact nx e (by omega) (by omega) (by have := ho.2.2.2.2.2 (by omega); omega) (by assumption)
    · cases e
theorem gp_itr_u (ht : ∀ i, i < t.length → t.getD i 0 < 256) : ∀ (n p : Nat) (s s' : gp_S), p + n ≤ t.length → gp_wS s → gp_itr t n p s = some s' → ∀ m, s.2.1.2.2 7 m ≤ s'.2.1.2.2 7 m
  | 0, p, s, s', _, h, e, m => by cases e; exact Nat.le_refl _
  | n + 1, p, s, s', hp, h, e, m => by
    rw [gp_itr] at e
    cases h1 : gp_stp s (t.getD p 0) with
    | none => rw [h1] at e; cases e
    | some s1 =>
      rw [h1] at e
      have h2 := gp_itr_u ht n (p + 1) s1 s' (by omega) (gp_stp_w (ht p (by omega)) h h1) e m
      have h3 := (gp_stp_u h (ht p (by omega)) h1).1 m
      omega
end
end
section
/-! rules told as a text: the component's build -/
section
variable {k k1 : Nat} {M M' : gz_M} {s s' : gp_S} {t : List Nat}
/-- a text at cell k -/
def gp_xK (k : Nat) (M : gz_M) (t : List Nat) : Prop := t.length ≤ 80 ∧ M.1 k 1 = nI t.length ∧ ∀ i, i < t.length → M.1 (k + 1) i = nI (t.getD i 0) ∧ t.getD i 0 < 256
/-- a text lies apart of the builder and its table -/
def gp_apart (k k1 : Nat) : Prop := 6 < k ∧ ∀ c, c = k1 ∨ c = k1 + 1 → c ≠ 4 ∧ c ≠ 5 ∧ c ≠ 6 ∧ (c < k ∨ k + 18 < c)
theorem gp_xK.fr (ha : gp_apart k k1) (h : gp_xK k1 M t) (hL : gp_bL k M M') : gp_xK k1 M' t := by
  have e : ∀ c, c = k1 ∨ c = k1 + 1 → M'.1 c = M.1 c := fun c hc => by
    obtain ⟨a1, a2, a3, a4⟩ := ha.2 c hc
    exact hL.2 c a1 a2 a3 a4
  exact ⟨h.1, by rw [e k1 (Or.inl rfl)]; exact h.2.1, fun i hi => by rw [e (k1 + 1) (Or.inr rfl)]; exact h.2.2 i hi⟩
theorem gp_bGo (ha : gp_apart k k1) (ht : ∀ i, i < t.length → t.getD i 0 < 256) {sE : gp_S} (hu : ∀ m, m < 4 → sE.2.1.2.2 7 m ≤ 10) : ∀ (d n p : Nat) (s : gp_S) (M : gz_M), p + d = t.length → d < n → gp_wS s → gp_bC k M s → gp_xK k1 M t → gp_itr t d p s = some sE → ∃ M', f1_build_9 k k1 n (nI (if s.1 = 0 then 1 else 0)) (nI p) M = f1_build_110 k k1 M' ∧ gp_bL k M M' ∧ gp_bC k M' sE := by
  intro d
  induction d with
  | zero =>
    intro n p s M hp hn hw h hx e
    have h1 := hx.1
    obtain ⟨n, rfl⟩ : ∃ q, n = q + 1 := ⟨n - 1, by omega⟩
    have : p = t.length := by omega
    subst this
    have e := Option.some.inj e
    subst e
    refine ⟨M, ?_, gp_bL.refl k M, h⟩
    rw [f1_build_9, hx.2.1, if_pos (nI_le (Nat.le_refl _) (by omega))]
  | succ d ih =>
    intro n p s M hp hn hw h hx e
    have h1 := hx.1
    obtain ⟨n, rfl⟩ : ∃ q, n = q + 1 := ⟨n - 1, by omega⟩
    have hc := ht p (by omega)
    have hE := e
    rw [gp_itr] at e
    cases es : gp_stp s (t.getD p 0) with
    | none => rw [es] at e; cases e
    | some s1 =>
      rw [es] at e
      have hw1 := gp_stp_w hc hw es
      have hu1 : ∀ m, m < 4 → s1.2.1.2.2 7 m ≤ 10 := fun m hm => Nat.le_trans (gp_itr_u ht d (p + 1) s1 sE (by omega) hw1 e m) (hu m hm)
      obtain ⟨M1, e1, e2, e3⟩ := gp_bStep ha.1 hw hc h es hu1
      obtain ⟨M', g1, g2, g3⟩ := ih n (p + 1) s1 M1 (by omega) (by omega) hw1 e3 (hx.fr ha e2) e
      refine ⟨M', ?_, e2.trans g2, g3⟩
      have hst := (gp_stp_u hw hc es).2.1
      have t91 : f1_build_91 k k1 (f1_build_9 k k1 n) (nI p) (nI (t.getD p 0)) M1 = f1_build_110 k k1 M' := by
        unfold f1_build_91
        rw [gp_eL, gp_eL, nI_1]
        by_cases h59 : t.getD p 0 = 59
        · rw [if_pos (show nI (t.getD p 0) = 59 from by rw [h59]; rfl)]
          rw [if_pos (hst.mpr h59)] at g1
          exact g1
        · rw [if_neg (show ¬ nI (t.getD p 0) = (59 : Int32) from fun e => h59 ((nI_eq (b := 59) (by omega) (by omega)).mp e))]
          rw [if_neg (fun h => h59 (hst.mp h))] at g1
          exact g1
      rw [f1_build_9, hx.2.1, if_neg (nI_ge (by omega) (by omega)), if_neg (show ¬ (80 : Int32) ≤ nI p from nI_ge (b := 80) (by omega) (by omega)), gp_ckb (show p < 80 by omega) (by omega), nI_clamp (by omega), (hx.2.2 p (by omega)).1, gp_eL]
      by_cases h0 : s.1 = 0
      · rw [if_pos h0] at e1
        rw [if_pos h0, if_neg (show ¬ nI 1 = 0 by decide), e1, gp_eB]
        exact t91
      · rw [if_neg h0] at e1
        rw [if_neg h0, if_pos (show nI 0 = 0 from nI_0)]
        by_cases h59 : t.getD p 0 = 59
        · rw [if_pos h59] at e1
          rw [if_pos (show nI (t.getD p 0) = 59 from by rw [h59]; rfl), e1, gp_eB]
          exact t91
        · rw [if_neg h59] at e1
          rw [if_neg (show ¬ nI (t.getD p 0) = (59 : Int32) from fun e => h59 ((nI_eq (b := 59) (by omega) (by omega)).mp e)), gp_isLetE hc, gp_eB2]
          cases hl : gp_isL (t.getD p 0) with
          | true =>
            rw [hl, if_pos rfl] at e1
            rw [if_pos rfl, if_neg (by decide), e1, gp_eB]
            exact t91
          | false =>
            rw [hl, if_neg (by decide)] at e1
            rw [if_neg (show ¬ (false = true) by simp), if_pos rfl, e1, gp_eB]
            exact t91
theorem gp_clr (hk : 6 < k) (M : gz_M) : ∃ M', f7_clear k M = some M' ∧ gp_bL k M M' ∧ gp_tC k M' gp_s0.2.1 := by
  have main : ∃ M', f7_clear_7 k gz_FU (nI 0) (gz_w M k 0 0) = some M' ∧ (gp_bL k M M' ∧ M'.1 k 0 = 0 ∧ ∀ m, m < 4 → M'.1 (k + 7) m = nI 0 ∧ M'.1 (k + 8) m = nI 0 ∧ (∀ x, x < 10 → M'.1 (k + 9 + 1 + m) x = nI 0) ∧ ∀ z, z < 8 → M'.1 (k + 14 + 1 + m) z = nI 0) := by
    refine gp_for (fun n x M1 => f7_clear_7 k n (nI x) M1) 4 (fun x M1 => gp_bL k M M1 ∧ M1.1 k 0 = 0 ∧ ∀ m, m < x → M1.1 (k + 7) m = nI 0 ∧ M1.1 (k + 8) m = nI 0 ∧ (∀ x, x < 10 → M1.1 (k + 9 + 1 + m) x = nI 0) ∧ ∀ z, z < 8 → M1.1 (k + 14 + 1 + m) z = nI 0) (fun M1 => gp_bL k M M1 ∧ M1.1 k 0 = 0 ∧ ∀ m, m < 4 → M1.1 (k + 7) m = nI 0 ∧ M1.1 (k + 8) m = nI 0 ∧ (∀ x, x < 10 → M1.1 (k + 9 + 1 + m) x = nI 0) ∧ ∀ z, z < 8 → M1.1 (k + 14 + 1 + m) z = nI 0) ?_ ?_ gz_FU 0 _ (by omega) (by unfold gz_FU; omega) ⟨gp_bL.w _ (by omega), gp_gs _ _ _ _, fun m hm => absurd hm (by omega)⟩
    · intro n M1 h
      exact ⟨M1, by rw [f7_clear_7, if_pos (by decide)], h⟩
    · intro n x M1 hx h
      right
      obtain ⟨i1, i2, i3⟩ := h
      obtain ⟨M2, e1, e2, e3, e4, e5⟩ := gp_fill (k + 9 + 1 + x) 10 0 (by omega) (gz_w (gz_w M1 (k + 7) x 0) (k + 8) x 0)
      obtain ⟨M3, f1, f2, f3, f4, f5⟩ := gp_fill (k + 14 + 1 + x) 8 0 (by omega) M2
      have o : ∀ a i, a ≠ k + 9 + 1 + x → a ≠ k + 14 + 1 + x → ¬ (a = k + 7 ∧ i = x) → ¬ (a = k + 8 ∧ i = x) → M3.1 a i = M1.1 a i := fun a i h1 h2 h3 h4 => by
        rw [f3 a h2, e3 a h1, gp_gn h4, gp_gn h3]
      refine ⟨M3, ?_, ?_, ?_, fun m hm => ?_⟩
      · rw [f7_clear_7, if_neg (show ¬ (4 : Int32) ≤ nI x from nI_ge (b := 4) (by omega) (by omega)), gp_ckb hx (by omega), gp_eL, gp_ckb hx (by omega), gp_eL, gp_ckb hx (by omega), nI_clamp (by omega), e1, gp_eB, gp_ckb hx (by omega), f1, gp_eB, gp_eL, nI_1]
      · refine i1.trans ⟨by rw [f2, e2]; rfl, fun c h1 h2 h3 h4 => ?_⟩
        rw [f3 c (by omega), e3 c (by omega), gp_wc _ (by omega), gp_wc _ (by omega)]
      · rw [o k 0 (by omega) (by omega) (by omega) (by omega)]
        exact i2
      · by_cases hmx : m = x
        · subst hmx
          refine ⟨?_, ?_, fun y hy => ?_, fun z hz => ?_⟩
          · rw [f3 _ (by omega), e3 _ (by omega), gp_gn (by omega), gp_gs]; rfl
          · rw [f3 _ (by omega), e3 _ (by omega), gp_gs]; rfl
          · rw [f3 _ (by omega), e4 y hy]; rfl
          · rw [f4 z hz]; rfl
        · obtain ⟨c1, c2, c3, c4⟩ := i3 m (by omega)
          refine ⟨?_, ?_, fun y hy => ?_, fun z hz => ?_⟩
          · rw [o _ _ (by omega) (by omega) (by omega) (by omega)]; exact c1
          · rw [o _ _ (by omega) (by omega) (by omega) (by omega)]; exact c2
          · rw [o _ _ (by omega) (by omega) (by omega) (by omega)]; exact c3 y hy
          · rw [o _ _ (by omega) (by omega) (by omega) (by omega)]; exact c4 z hz
  obtain ⟨M', e1, e2, e3, e4⟩ := main
  unfold f7_clear
  rw [gp_eL]
  exact ⟨M', e1, e2, e3, fun j hj => absurd hj (by show ¬ j < 0; omega), fun m hm => e4 m hm⟩
/-- the component's table is the text's -/
theorem gp_bldC (ha : gp_apart k k1) (hok : gp_ok t) (hx : gp_xK k1 M t) : ∃ M', f1_build k k1 M = some M' ∧ gp_bL k M M' ∧ gp_tC k M' (gp_tab t) := by
  obtain ⟨h80, s, e, hm, hu⟩ := hok
  have ht : ∀ i, i < t.length → t.getD i 0 < 256 := fun i hi => (hx.2.2 i hi).2
  obtain ⟨M0, c1, c2, c3⟩ := gp_clr (k := k) ha.1 M
  obtain ⟨M1, b1, b2, b3⟩ := gp_bGo (k1 := k1) ha ht hu t.length gz_FU 0 gp_s0 M0 (by omega) (by unfold gz_FU; omega) gp_w0 ⟨c3, fun h => absurd h (by decide)⟩ (hx.fr ha c2) e
  have hx1 := (hx.fr ha c2).fr ha b2
  have hw := gp_itr_w ht t.length 0 gp_s0 s (by omega) gp_w0 e
  unfold f1_build
  rw [c1, gp_eB]
  have b1 : f1_build_9 k k1 gz_FU 1 0 M0 = f1_build_110 k k1 M1 := b1
  rw [b1]
  unfold f1_build_110 gp_tab
  rw [e, hx1.2.1]
  dsimp only
  by_cases h0 : t.length = 0
  · rw [if_pos h0, h0, if_pos (show nI 0 ≤ 0 by decide)]
    exact ⟨M1, rfl, c2.trans b2, b3.1⟩
  · rw [if_neg h0, if_neg (nI_nle (by omega) (by omega))]
    have h35 : 3 ≤ s.1 ∧ s.2.2.1.length ≤ 1 := by
      rcases hm with hm | hm | hm
      · exact absurd hm h0
      · have := hw.1.2.2.2.2.2 (by omega)
        omega
      · exact ⟨by omega, hm.2⟩
    obtain ⟨M2, g1, g2, g3⟩ := gp_erC ha.1 hw h35.1 h35.2 b3
    rw [g1, gp_eB]
    exact ⟨M2, rfl, (c2.trans b2).trans g2, g3⟩
end
end
section
/-! rules told as a text: the reference reads signs -/
/-- the text that is read, the place, no fault yet -/
def gp_at (M : gz_M) (t : List Nat) (p : Nat) : Prop := t.length ≤ 80 ∧ p ≤ t.length ∧ M.1 0 7 = nI t.length ∧ M.1 0 8 = nI p ∧ M.1 0 9 = gp_no ∧ ∀ i, i < t.length → M.1 4 i = nI (t.getD i 0) ∧ t.getD i 0 < 256
/-- the sign that stands there, if one does -/
def gp_hr (t : List Nat) (p : Nat) : Option Nat := if p < t.length then some (t.getD p 0) else none
/-- what a reading of rules may change -/
def gp_rL (M M' : gz_M) : Prop := M'.2 = M.2 ∧ (∀ c, c ≠ 0 → c < 5 ∨ 14 < c → M'.1 c = M.1 c) ∧ ∀ i, i < 8 ∨ (10 < i ∧ i < 21) ∨ 24 < i → M'.1 0 i = M.1 0 i
theorem gp_rL.refl (M : gz_M) : gp_rL M M := ⟨rfl, fun _ _ _ => rfl, fun _ _ => rfl⟩
theorem gp_rL.trans {M M1 M2 : gz_M} (h : gp_rL M M1) (h' : gp_rL M1 M2) : gp_rL M M2 := ⟨h'.1.trans h.1, fun c a b => (h'.2.1 c a b).trans (h.2.1 c a b), fun i a => (h'.2.2 i a).trans (h.2.2 i a)⟩
theorem gp_rL.w0 {i : Nat} (v : Int32) {M : gz_M} (h : i = 8 ∨ i = 9 ∨ i = 10 ∨ (21 ≤ i ∧ i ≤ 24)) : gp_rL M (gz_w M 0 i v) := ⟨rfl, fun c h1 h2 => gp_wc _ (by omega), fun a h1 => gp_gn (by omega)⟩
theorem gp_rL.w {c i : Nat} (v : Int32) {M : gz_M} (h : 5 ≤ c ∧ c ≤ 14) : gp_rL M (gz_w M c i v) := ⟨rfl, fun a h1 h2 => gp_wc _ (by omega), fun a h1 => gp_gn (by omega)⟩
section
variable {M M' : gz_M} {t : List Nat} {p c : Nat}
theorem gp_fineE (h : gp_at M t p) : f12_fine M = some (1, M) := by
  unfold f12_fine
  rw [h.2.2.2.2.1, if_pos gp_m1.symm]
theorem gp_nfine {q : Nat} (h : M.1 0 9 = nI q) (hq : q < 2 ^ 31) : f12_fine M = some (0, M) := by
  unfold f12_fine
  rw [h, if_neg (show ¬ nI q = (-1 : Int32) from by rw [gp_m1, gp_ne1 hq]; exact id)]
theorem gp_hereE (h : gp_at M t p) : f12_here M = some (gp_o (gp_hr t p), M) := by
  obtain ⟨h1, h2, h3, h4, h5, h6⟩ := h
  unfold f12_here gp_hr
  rw [h3, h4]
  by_cases hp : p < t.length
  · rw [if_neg (nI_ge hp (by omega)), gp_ckb (show p < 80 by omega) (by omega), nI_clamp (by omega), (h6 p hp).1, if_pos hp]
    rfl
  · rw [if_pos (nI_le (by omega) (by omega)), if_neg hp]
    rfl
theorem gp_hr_lt (h : gp_at M t p) (e : gp_hr t p = some c) : c < 256 ∧ p < t.length ∧ t.getD p 0 = c := by
  unfold gp_hr at e
  split at e
  · rename_i hp
    have e := Option.some.inj e
    exact ⟨by rw [← e]; exact (h.2.2.2.2.2 p hp).2, hp, e⟩
  · cases e
/-- the sign there is c -/
theorem gp_oEq {o : Option Nat} (ho : ∀ c, o = some c → c < 256) {n : Nat} (hn : n < 2 ^ 31) : (gp_o o = nI n) ↔ o = some n := by
  cases o with
  | none => exact ⟨fun h => (by have h : gp_no = nI n := h; rw [gp_ne2 hn] at h; exact h.elim), fun h => nomatch h⟩
  | some c =>
    have := ho c rfl
    exact (nI_eq (by omega) hn).trans ⟨fun h => by rw [h], fun h => Option.some.inj h⟩
theorem gp_faultE (h : gp_at M t p) : f12_fault (M.1 0 8) M = some (gz_w M 0 9 (nI p)) := by
  unfold f12_fault
  rw [gp_fineE h, gp_eB2, if_neg (by decide), h.2.2.2.1]
  rfl
/-- the place one on -/
theorem gp_at.nx (h : gp_at M t p) (hp : p < t.length) : gp_at (gz_w M 0 8 (nI (p + 1))) t (p + 1) := ⟨h.1, hp, by rw [gp_gn (by omega)]; exact h.2.2.1, by rw [gp_gs], by rw [gp_gn (by omega)]; exact h.2.2.2.2.1, fun i hi => by rw [gp_gn (by omega)]; exact h.2.2.2.2.2 i hi⟩
theorem gp_at.fr (h : gp_at M t p) (hL : gp_rL M M') (e8 : M'.1 0 8 = M.1 0 8) (e9 : M'.1 0 9 = M.1 0 9) : gp_at M' t p := ⟨h.1, h.2.1, by rw [hL.2.2 7 (by omega)]; exact h.2.2.1, by rw [e8]; exact h.2.2.2.1, by rw [e9]; exact h.2.2.2.2.1, fun i hi => by rw [hL.2.1 4 (by omega) (by omega)]; exact h.2.2.2.2.2 i hi⟩
theorem gp_passE (h : gp_at M t p) {n : Nat} (hn : n < 256) : f12_passes (nI n) M = if gp_hr t p = some n then some (1, gz_w M 0 8 (nI (p + 1))) else some (0, M) := by
  unfold f12_passes
  rw [gp_fineE h, gp_eB2, if_neg (by decide), gp_hereE h, gp_eB2]
  by_cases e : gp_hr t p = some n
  · rw [if_pos ((gp_oEq (fun c hc => (gp_hr_lt h hc).1) (by omega)).mpr e), if_pos e, h.2.2.2.1, nI_1]
    rfl
  · rw [if_neg (fun h' => e ((gp_oEq (fun c hc => (gp_hr_lt h hc).1) (by omega)).mp h')), if_neg e]
theorem gp_passN {q : Nat} (h : M.1 0 9 = nI q) (hq : q < 2 ^ 31) (a : Int32) : f12_passes a M = some (0, M) := by
  unfold f12_passes
  rw [gp_nfine h hq, gp_eB2, if_pos rfl]
theorem gp_faultN {q : Nat} (h : M.1 0 9 = nI q) (hq : q < 2 ^ 31) (a : Int32) : f12_fault a M = some M := by
  unfold f12_fault
  rw [gp_nfine h hq, gp_eB2, if_pos rfl]
theorem gp_needN {q : Nat} (h : M.1 0 9 = nI q) (hq : q < 2 ^ 31) (a : Int32) : f12_need a M = some M := by
  unfold f12_need
  rw [gp_passN h hq, gp_eB2, if_pos rfl, gp_faultN h hq]
  rfl
theorem gp_needE (h : gp_at M t p) {n : Nat} (hn : n < 256) : f12_need (nI n) M = if gp_hr t p = some n then some (gz_w M 0 8 (nI (p + 1))) else some (gz_w M 0 9 (nI p)) := by
  unfold f12_need
  rw [gp_passE h hn]
  by_cases e : gp_hr t p = some n
  · rw [if_pos e, gp_eB2, if_neg (by decide), if_pos e]
  · rw [if_neg e, gp_eB2, if_pos rfl, if_neg e, gp_faultE h]
    rfl
theorem gp_inE (h : gp_at M t p) {a b : Nat} (ha : a < 256) (hb : b < 256) : f12_in (gp_o (gp_hr t p)) (nI a) (nI b) M = some ((match gp_hr t p with | none => 0 | some c => if a ≤ c ∧ c ≤ b then 1 else 0), M) := by
  unfold f12_in
  cases e : gp_hr t p with
  | none =>
    rw [if_pos (by exact of_eq_true (gp_nolt2 (by omega)))]
  | some c =>
    have hc := (gp_hr_lt h e).1
    rw [show gp_o (some c) = nI c from rfl]
    show _ = some ((if a ≤ c ∧ c ≤ b then (1 : Int32) else 0), M)
    by_cases h1 : c < a
    · rw [if_pos (nI_lt h1 (by omega)), if_neg (by omega)]
    · rw [if_neg (nI_nlt (by omega) (by omega))]
      by_cases h2 : b < c
      · rw [if_pos (nI_lt h2 (by omega)), if_neg (by omega)]
      · rw [if_neg (nI_nlt (by omega) (by omega)), if_pos (by omega)]
/-- a sign where a part begins -/
def gp_isP (o : Option Nat) : Bool := match o with
  | none => false
  | some c => gp_isL c || c == 40
theorem gp_isPE (h : gp_at M t p) : f12_isPart M = some ((if gp_isP (gp_hr t p) = true then 1 else 0), M) := by
  unfold f12_isPart
  have hlt : ∀ c, gp_hr t p = some c → c < 256 := fun c hc => (gp_hr_lt h hc).1
  rw [gp_hereE h, gp_eB2, show (97 : Int32) = nI 97 from rfl, show (104 : Int32) = nI 104 from rfl, gp_inE h (by omega) (by omega), gp_eB2, gp_hereE h, gp_eB2, gp_hereE h, gp_eB2]
  cases e : gp_hr t p with
  | none =>
    rw [if_pos rfl, if_neg (show ¬ gp_o none = (46 : Int32) by decide), if_neg (show ¬ gp_o none = (40 : Int32) by decide)]
    rfl
  | some c =>
    have hc := hlt c e
    rw [show gp_o (some c) = nI c from rfl]
    unfold gp_isP gp_isL
    dsimp only
    by_cases h1 : 97 ≤ c ∧ c ≤ 104
    · rw [if_neg (show ¬ ((if 97 ≤ c ∧ c ≤ 104 then (1 : Int32) else 0) = 0) from by rw [if_pos h1]; decide), if_pos (by simp [h1.1, h1.2])]
    · rw [if_pos (show (if 97 ≤ c ∧ c ≤ 104 then (1 : Int32) else 0) = 0 from if_neg h1)]
      by_cases h46 : c = 46
      · rw [if_pos (show nI c = 46 from by rw [h46]; rfl), if_pos (by simp [h46])]
      · rw [if_neg (show ¬ nI c = (46 : Int32) from fun e => h46 ((nI_eq (b := 46) (by omega) (by omega)).mp e))]
        by_cases h40 : c = 40
        · rw [if_pos (show nI c = 40 from by rw [h40]; rfl), if_pos (by simp [h40])]
        · rw [if_neg (show ¬ nI c = (40 : Int32) from fun e => h40 ((nI_eq (b := 40) (by omega) (by omega)).mp e)), if_neg (by simp [h46, h40]; omega)]
/-- letters behind letters; on any numbers -/
theorem gp_folG {m : Nat} (hm : m < 4) (X Y : Int32) (M : gz_M) : ∃ M', f12_follow (nI m) X Y M = some M' ∧ M'.2 = M.2 ∧ (∀ c, c ≠ 14 → M'.1 c = M.1 c) ∧ ∀ i, M'.1 14 i = if 10 * m ≤ i ∧ i < 10 * m + 10 ∧ (gz_shr X (nI (i - 10 * m)) &&& 1) = 1 then M.1 14 i ||| Y else M.1 14 i := by
  unfold f12_follow
  refine gp_for (fun n x M1 => f12_follow_3 n (nI m) X Y (nI x) M1) 10 (fun x M1 => M1.2 = M.2 ∧ (∀ c, c ≠ 14 → M1.1 c = M.1 c) ∧ ∀ i, M1.1 14 i = if 10 * m ≤ i ∧ i < 10 * m + x ∧ (gz_shr X (nI (i - 10 * m)) &&& 1) = 1 then M.1 14 i ||| Y else M.1 14 i) (fun M1 => M1.2 = M.2 ∧ (∀ c, c ≠ 14 → M1.1 c = M.1 c) ∧ ∀ i, M1.1 14 i = if 10 * m ≤ i ∧ i < 10 * m + 10 ∧ (gz_shr X (nI (i - 10 * m)) &&& 1) = 1 then M.1 14 i ||| Y else M.1 14 i) ?_ ?_ gz_FU 0 M (by omega) (by unfold gz_FU; omega) ⟨rfl, fun _ _ => rfl, fun i => by rw [if_neg (by omega)]⟩
  · intro n M1 h
    exact ⟨M1, by rw [f12_follow_3, if_pos (by decide)], h⟩
  · intro n x M1 hx h
    right
    obtain ⟨i1, i2, i3⟩ := h
    have hmx : (10 : Int32) * nI m + nI x = nI (10 * m + x) := by rw [show (10 : Int32) = nI 10 from rfl, pk_mul, nI_add]
    have hold := i3 (10 * m + x)
    rw [if_neg (by omega)] at hold
    rw [f12_follow_3, if_neg (show ¬ (10 : Int32) ≤ nI x from nI_ge (b := 10) (by omega) (by omega))]
    by_cases hb : (gz_shr X (nI x) &&& 1) = 1
    · rw [if_pos hb, hmx, gp_eL, gp_ckb (show 10 * m + x < 40 by omega) (by omega), gp_ckb (show 10 * m + x < 40 by omega) (by omega), nI_clamp (by omega), hold, gp_eL, gp_eL, nI_1]
      refine ⟨_, rfl, by rw [gp_gl]; exact i1, fun c hc => by rw [gp_wc _ hc]; exact i2 c hc, fun i => ?_⟩
      by_cases hi : i = 10 * m + x
      · rw [hi, gp_gs, if_pos ⟨by omega, by omega, by rw [Nat.add_sub_cancel_left]; exact hb⟩]
      · rw [gp_gn (by omega), i3 i]
        by_cases hz : 10 * m ≤ i ∧ i < 10 * m + x ∧ (gz_shr X (nI (i - 10 * m)) &&& 1) = 1
        · rw [if_pos hz, if_pos ⟨hz.1, by omega, hz.2.2⟩]
        · rw [if_neg hz, if_neg (fun h => hz ⟨h.1, by have := h.2.1; omega, h.2.2⟩)]
    · rw [if_neg hb, gp_eL, nI_1]
      refine ⟨M1, rfl, i1, i2, fun i => ?_⟩
      rw [i3 i]
      by_cases hi : i = 10 * m + x
      · rw [if_neg (by omega), if_neg (fun h => hb (by have := h.2.2; rwa [hi, Nat.add_sub_cancel_left] at this))]
      · by_cases hz : 10 * m ≤ i ∧ i < 10 * m + x ∧ (gz_shr X (nI (i - 10 * m)) &&& 1) = 1
        · rw [if_pos hz, if_pos ⟨hz.1, by omega, hz.2.2⟩]
        · rw [if_neg hz, if_neg (fun h => hz ⟨h.1, by have := h.2.1; omega, h.2.2⟩)]
end
end
section
/-! rules told as a text: the reference's tables while it reads -/
def gp_tP (M : gz_M) (T : gp_T) : Prop := (∀ j, j < T.1 → M.1 5 j = nI (T.2.2 1 j) ∧ M.1 6 j = nI (T.2.2 2 j) ∧ M.1 7 j = nI (T.2.2 3 j) ∧ M.1 8 j = T.2.1 j ∧ M.1 9 j = nI (T.2.2 6 j) ∧ M.1 11 j = nI (T.2.2 5 j)) ∧ (∃ bg : Nat → Nat, (∀ j, j < T.1 → M.1 10 j = nI (bg j)) ∧ ∀ m, m < 4 → T.2.2 8 m = gp_orN (fun j => if T.2.2 1 j = m then bg j else 0) T.1) ∧ ∀ m, m < 4 → M.1 12 m = nI (T.2.2 7 m) ∧ ∀ x, x < gp_u10 T m → M.1 14 (10 * m + x) = nI (T.2.2 (10 + m) x) ∧ ∃ c, c ≤ 8 ∧ M.1 13 (10 * m + x) = nI c ∧ ∀ s, s < 8 → (T.2.2 (15 + m) s).testBit x = (decide (c = 8) || decide (c = s))
def gp_tc (M : gz_M) (T : gp_T) : Prop := M.1 5 T.1 = nI (gp_md T) ∧ M.1 6 T.1 = nI (T.2.2 2 T.1)
def gp_pc (M : gz_M) (P : gp_P) : Prop := M.1 0 21 = nI (if P.2.2 = true then 1 else 0) ∧ M.1 0 22 = nI P.1 ∧ M.1 0 23 = nI P.2.1
theorem gp_u10_10 (T : gp_T) (m : Nat) : gp_u10 T m ≤ 10 := by unfold gp_u10; omega
theorem gp_orN_e {f g : Nat → Nat} : ∀ {n : Nat}, (∀ j, j < n → f j = g j) → gp_orN f n = gp_orN g n
  | 0, _ => rfl
  | n + 1, h => by
    rw [gp_orN, gp_orN, h n (by omega), gp_orN_e (fun j hj => h j (by omega))]
section
variable {M M' : gz_M} {T : gp_T} {t : List Nat} {p c : Nat}
theorem gp_tP.fr (h : gp_tP M T) (e : ∀ a, 5 ≤ a → a ≤ 14 → M'.1 a = M.1 a) : gp_tP M' T := by
  obtain ⟨h1, ⟨bg, h2, h3⟩, h4⟩ := h
  refine ⟨fun j hj => ?_, ⟨bg, fun j hj => by rw [e 10 (by omega) (by omega)]; exact h2 j hj, h3⟩, fun m hm => ?_⟩
  · rw [e 5 (by omega) (by omega), e 6 (by omega) (by omega), e 7 (by omega) (by omega), e 8 (by omega) (by omega), e 9 (by omega) (by omega), e 11 (by omega) (by omega)]
    exact h1 j hj
  · rw [e 12 (by omega) (by omega), e 13 (by omega) (by omega), e 14 (by omega) (by omega)]
    exact h4 m hm
theorem gp_tc.fr (h : gp_tc M T) (e : ∀ a, 5 ≤ a → a ≤ 14 → M'.1 a = M.1 a) : gp_tc M' T := by
  unfold gp_tc
  rw [e 5 (by omega) (by omega), e 6 (by omega) (by omega)]
  exact h
theorem gp_folE {a f : Nat} (h : gp_tP M T) (hm : gp_md T < 4) (ha : a < 2 ^ gp_u10 T (gp_md T)) : ∃ M', f12_follow (nI (gp_md T)) (nI a) (nI f) M = some M' ∧ M'.2 = M.2 ∧ (∀ c, c ≠ 14 → M'.1 c = M.1 c) ∧ gp_tP M' (gp_lnk T a f) := by
  obtain ⟨M', e1, e2, e3, e4⟩ := gp_folG hm (nI a) (nI f) M
  refine ⟨M', e1, e2, e3, ?_⟩
  have hsm := gp_lnk_sm T a f hm
  have hu := gp_u10_10 T (gp_md T)
  have ha10 : a < 2 ^ 10 := gp_pw ha hu
  obtain ⟨h1, ⟨bg, h2, h3⟩, h4⟩ := h
  refine ⟨fun j hj => ?_, ⟨bg, fun j hj => by rw [e3 10 (by omega)]; exact h2 j hj, fun m hm => ?_⟩, fun m hm' => ?_⟩
  · have hj : j < T.1 := hj
    rw [e3 5 (by omega), e3 6 (by omega), e3 7 (by omega), e3 8 (by omega), e3 9 (by omega), e3 11 (by omega), hsm.2.2.1 1 (by omega), hsm.2.2.1 2 (by omega), hsm.2.2.1 3 (by omega), hsm.2.2.1 5 (by omega), hsm.2.2.1 6 (by omega), hsm.2.1]
    exact h1 j hj
  · rw [hsm.2.2.1 8 (by omega), hsm.2.2.1 1 (by omega), hsm.1]
    exact h3 m hm
  · rw [e3 12 (by omega), e3 13 (by omega), hsm.u, hsm.2.2.1 7 (by omega), hsm.2.2.2 (15 + m) (by omega)]
    refine ⟨(h4 m hm').1, fun x hx => ⟨?_, ((h4 m hm').2 x hx).2⟩⟩
    have hx10 := gp_u10_10 T m
    have hold := ((h4 m hm').2 x hx).1
    rw [e4]
    unfold gp_lnk
    dsimp only
    by_cases hmm : m = gp_md T
    · rw [← hmm] at e4 ⊢
      rw [Nat.add_sub_cancel_left]
      have hb : ((gz_shr (nI a) (nI x) &&& 1) = 1) = (a.testBit x = true) := gp_bit1 (by omega) (by omega)
      by_cases hbb : a.testBit x = true
      · rw [if_pos ⟨by omega, by omega, by rw [hb]; exact hbb⟩, if_pos ⟨rfl, by omega, hbb⟩, hold, gp_or]
      · rw [if_neg (fun h => hbb (by have := h.2.2; rwa [hb] at this)), if_neg (fun h => hbb h.2.2), hold]
    · rw [if_neg (by omega), if_neg (by omega), hold]
/-- a letter counted, told by what changes -/
theorem gp_tP_let {u k b : Nat} (h : gp_tP M T) (hb : gp_wTb T) (hm : gp_md T < 4) (hu : T.2.2 7 (gp_md T) = u) (hk : k ≤ 8) (hkc : ∀ z, z < 8 → ((k = 8 ∨ k = z) ↔ (c = 46 ∨ c = 97 + z))) (e : ∀ a, a = 5 ∨ a = 7 ∨ a = 8 ∨ a = 9 ∨ a = 10 ∨ a = 11 → M'.1 a = M.1 a) (e6 : ∀ i, i < T.1 → M'.1 6 i = M.1 6 i) (e12 : ∀ i, M'.1 12 i = if i = gp_md T then nI (u + 1) else M.1 12 i) (e13 : ∀ i, M'.1 13 i = if u < 10 ∧ i = 10 * gp_md T + u then nI k else M.1 13 i) (e14 : ∀ i, M'.1 14 i = if u < 10 ∧ i = 10 * gp_md T + u then nI 0 else M.1 14 i) : gp_tP M' (gp_aL T c) := by
  obtain ⟨h1, ⟨bg, h2, h3⟩, h4⟩ := h
  have o1 : ∀ j, (gp_aL T c).2.2 1 j = T.2.2 1 j := fun j => gp_aL_r _ _ 1 j (by omega) (by omega) (by omega)
  refine ⟨fun j hj => ?_, ⟨bg, fun j hj => by rw [e 10 (by omega)]; exact h2 j hj, fun m hm => ?_⟩, fun m hm' => ?_⟩
  · have hj : j < T.1 := hj
    rw [e 5 (by omega), e6 j hj, e 7 (by omega), e 8 (by omega), e 9 (by omega), e 11 (by omega), o1, gp_aL_r _ _ 2 j (by omega) (by omega) (by omega), gp_aL_r _ _ 3 j (by omega) (by omega) (by omega), gp_aL_r _ _ 5 j (by omega) (by omega) (by omega), gp_aL_r _ _ 6 j (by omega) (by omega) (by omega)]
    exact h1 j hj
  · rw [gp_aL_r _ _ 8 m (by omega) (by omega) (by omega), h3 m hm]
    exact gp_orN_e (fun j _ => by rw [o1])
  · obtain ⟨g1, g2⟩ := h4 m hm'
    obtain ⟨w1, w2, w3⟩ := hb.1 m hm'
    have hux := gp_u10_10 T m
    by_cases hmm : m = gp_md T
    · subst hmm
      refine ⟨by rw [e12, if_pos rfl, gp_aL_7, if_pos rfl, hu], fun x hx => ?_⟩
      have hx' : x < min (u + 1) 10 := by
        unfold gp_u10 at hx
        rw [gp_aL_7, if_pos rfl, hu] at hx
        exact hx
      have h14 : (gp_aL T c).2.2 (10 + gp_md T) x = T.2.2 (10 + gp_md T) x := gp_aL_r _ _ _ _ (by omega) (by omega) (by omega)
      have hv : ∀ z, z < 8 → (gp_aL T c).2.2 (15 + gp_md T) z = if u < 10 ∧ (c = 46 ∨ c = 97 + z) then T.2.2 (15 + gp_md T) z ||| 1 <<< u else T.2.2 (15 + gp_md T) z := fun z hz => by
        unfold gp_aL
        dsimp only
        rw [if_neg (by omega), if_neg (by omega), hu]
        by_cases hq : u < 10 ∧ (c = 46 ∨ c = 97 + z)
        · rw [if_pos hq, if_pos ⟨hq.1, rfl, hz, hq.2⟩]
        · rw [if_neg hq, if_neg (fun h => hq ⟨h.1, h.2.2.2⟩)]
      by_cases hxu : x = u
      · subst hxu
        refine ⟨?_, k, hk, ?_, fun z hz => ?_⟩
        · rw [e14, if_pos ⟨by omega, rfl⟩, h14, (w2 x (by omega)).2 (by omega)]
        · rw [e13, if_pos ⟨by omega, rfl⟩]
        · have hz0 : (T.2.2 (15 + gp_md T) z).testBit x = false := by
            refine gp_hi (w3 z hz) ?_
            unfold gp_u10
            omega
          rw [hv z hz]
          by_cases hq : c = 46 ∨ c = 97 + z
          · rw [if_pos ⟨by omega, hq⟩, Nat.testBit_or, hz0, Nat.one_shiftLeft, Nat.testBit_two_pow_self]
            rcases (hkc z hz).mpr hq with h | h
            · simp [h]
            · simp [h]
          · rw [if_neg (fun h => hq h.2), hz0]
            have hn : ¬ (k = 8 ∨ k = z) := fun h => hq ((hkc z hz).mp h)
            have n1 : ¬ k = 8 := fun h => hn (Or.inl h)
            have n2 : ¬ k = z := fun h => hn (Or.inr h)
            simp [n1, n2]
      · have hxo : x < gp_u10 T (gp_md T) := by unfold gp_u10; omega
        obtain ⟨g21, q, g22, g23, g24⟩ := g2 x hxo
        refine ⟨?_, q, g22, ?_, fun z hz => ?_⟩
        · rw [e14, if_neg (by omega), h14]; exact g21
        · rw [e13, if_neg (by omega)]; exact g23
        · rw [hv z hz, ← g24 z hz]
          split
          · rw [Nat.testBit_or, Nat.one_shiftLeft, Nat.testBit_two_pow]
            have : decide (u = x) = false := by simp; omega
            rw [this, Bool.or_false]
          · rfl
    · have hu' : gp_u10 (gp_aL T c) m = gp_u10 T m := by unfold gp_u10; rw [gp_aL_7, if_neg hmm]; rfl
      refine ⟨by rw [e12, if_neg hmm, gp_aL_7, if_neg hmm]; exact g1, fun x hx => ?_⟩
      rw [hu'] at hx
      obtain ⟨g21, q, g22, g23, g24⟩ := g2 x hx
      refine ⟨?_, q, g22, ?_, fun z hz => ?_⟩
      · rw [e14, if_neg (by omega), gp_aL_r _ _ (10 + m) x (by omega) (by omega) (by omega)]; exact g21
      · rw [e13, if_neg (by omega)]; exact g23
      · have : (gp_aL T c).2.2 (15 + m) z = T.2.2 (15 + m) z := by
          unfold gp_aL
          dsimp only
          rw [if_neg (by omega), if_neg (by omega), if_neg (by omega)]
        rw [this]
        exact g24 z hz
end
end
section
/-! rules told as a text: the reference reads a letter, the marks behind a part -/
/-- what reading a part may change -/
def gp_rF (M M' : gz_M) : Prop := M'.2 = M.2 ∧ (∀ c, c ≠ 0 → c ≠ 6 → c ≠ 12 → c ≠ 13 → c ≠ 14 → M'.1 c = M.1 c) ∧ ∀ i, i ≠ 8 → i ≠ 9 → i < 21 ∨ 24 < i → M'.1 0 i = M.1 0 i
theorem gp_rF.refl (M : gz_M) : gp_rF M M := ⟨rfl, fun _ _ _ _ _ _ => rfl, fun _ _ _ _ => rfl⟩
theorem gp_rF.trans {M M1 M2 : gz_M} (h : gp_rF M M1) (h' : gp_rF M1 M2) : gp_rF M M2 := ⟨h'.1.trans h.1, fun c a1 a2 a3 a4 a5 => (h'.2.1 c a1 a2 a3 a4 a5).trans (h.2.1 c a1 a2 a3 a4 a5), fun i a1 a2 a3 => (h'.2.2 i a1 a2 a3).trans (h.2.2 i a1 a2 a3)⟩
theorem gp_rF.w0 {i : Nat} (v : Int32) {M : gz_M} (h : i = 8 ∨ i = 9 ∨ (21 ≤ i ∧ i ≤ 24)) : gp_rF M (gz_w M 0 i v) := ⟨rfl, fun c h1 _ _ _ _ => gp_wc _ h1, fun a h1 h2 h3 => gp_gn (by omega)⟩
theorem gp_rF.w {c i : Nat} (v : Int32) {M : gz_M} (h : c = 6 ∨ c = 12 ∨ c = 13 ∨ c = 14) : gp_rF M (gz_w M c i v) := ⟨rfl, fun a h1 _ _ _ _ => gp_wc _ (by omega), fun a h1 _ _ => gp_gn (by omega)⟩
theorem gp_rF.of14 {M M' : gz_M} (h : M'.2 = M.2) (h' : ∀ c, c ≠ 14 → M'.1 c = M.1 c) : gp_rF M M' := ⟨h, fun c _ _ _ _ h4 => h' c h4, fun i _ _ _ => by rw [h' 0 (by omega)]⟩
theorem gp_at.frF {M M' : gz_M} {t : List Nat} {p : Nat} (h : gp_at M t p) (hL : gp_rF M M') (e8 : M'.1 0 8 = M.1 0 8) (e9 : M'.1 0 9 = M.1 0 9) : gp_at M' t p := ⟨h.1, h.2.1, by rw [hL.2.2 7 (by omega) (by omega) (by omega)]; exact h.2.2.1, by rw [e8]; exact h.2.2.2.1, by rw [e9]; exact h.2.2.2.2.1, fun i hi => by rw [hL.2.1 4 (by omega) (by omega) (by omega) (by omega) (by omega)]; exact h.2.2.2.2.2 i hi⟩
/-- no fault yet: the machine came to s, the tables are T -/
def gp_good (M : gz_M) (t : List Nat) (p : Nat) (s : gp_S) (T : gp_T) : Prop := gp_at M t p ∧ gp_wS s ∧ gp_itr t p 0 gp_s0 = some s ∧ (∀ m, s.2.1.2.2 7 m ≤ p) ∧ gp_tP M T ∧ gp_tc M T ∧ M.1 0 24 = nI (s.2.2.1.length - 1)
/-- a fault, where the machine has it -/
def gp_bad (M : gz_M) (t : List Nat) : Prop := ∃ q s, gp_itr t q 0 gp_s0 = some s ∧ q ≤ t.length ∧ (q < t.length → gp_stp s (t.getD q 0) = none) ∧ (q = t.length → ¬ gp_mEnd t s) ∧ M.1 0 9 = nI q
theorem gp_itr_s {t : List Nat} {p : Nat} {s s' : gp_S} (h : gp_itr t p 0 gp_s0 = some s) (e : gp_stp s (t.getD p 0) = some s') : gp_itr t (p + 1) 0 gp_s0 = some s' := by
  rw [gp_itr_add, h]
  show gp_itr t 1 (0 + p) s = some s'
  rw [gp_itr_1, Nat.zero_add]
  exact e
theorem gp_good_u {s s' : gp_S} {c p : Nat} (hw : gp_wS s) (hc : c < 256) (e : gp_stp s c = some s') (h : ∀ m, s.2.1.2.2 7 m ≤ p) (m : Nat) : s'.2.1.2.2 7 m ≤ p + 1 := by
  have h1 := (gp_stp_u hw hc e).1 m
  have h2 := h m
  rw [h1]
  split <;> omega
section
variable {M M' : gz_M} {T : gp_T} {t : List Nat} {p c : Nat}
theorem gp_rdLet (ha : gp_at M t p) (hh : gp_hr t p = some c) (hl : gp_isL c = true) (hT : gp_tP M T) (hc : gp_tc M T) (hb : gp_wTb T) (hm : gp_md T < 4) (h7 : T.1 ≤ 7) (hu : T.2.2 7 (gp_md T) ≤ 80) : ∃ M', f12_readLetter (nI T.1) M = some M' ∧ gp_rF M M' ∧ gp_at M' t (p + 1) ∧ gp_tP M' (gp_aL T c) ∧ gp_tc M' (gp_aL T c) ∧ gp_pc M' (gp_pL T) ∧ M'.1 0 24 = M.1 0 24 := by
  obtain ⟨hc256, hpl, htp⟩ := gp_hr_lt ha hh
  have h80 := ha.1
  obtain ⟨k, hk8, hkc, hkk⟩ : ∃ k, k ≤ 8 ∧ (∀ z, z < 8 → ((k = 8 ∨ k = z) ↔ (c = 46 ∨ c = 97 + z))) ∧ (if c = 46 then (8 : Int32) else nI c - 97) = nI k := by
    by_cases h46 : c = 46
    · exact ⟨8, by omega, fun z hz => ⟨fun _ => Or.inl h46, fun _ => Or.inl rfl⟩, by rw [if_pos h46]; rfl⟩
    · have hcl : 97 ≤ c ∧ c ≤ 104 := by
        unfold gp_isL at hl
        simp [h46] at hl
        exact hl
      refine ⟨c - 97, by omega, fun z hz => by omega, ?_⟩
      rw [if_neg h46]
      exact gp_subI (b := 97) hcl.1
  have e28 : f12_readLetter (nI T.1) M = f12_readLetter_28 (nI T.1) (nI (gp_md T)) (nI k) M := by
    unfold f12_readLetter
    rw [gp_ckb (show T.1 < 8 by omega) (by omega), nI_clamp (by omega), hc.1, gp_eL, gp_hereE ha, gp_eB2, gp_hereE ha, gp_eB2, hh, show gp_o (some c) = nI c from rfl, ← hkk]
    by_cases h46 : c = 46
    · rw [if_pos (show nI c = 46 from by rw [h46]; rfl), if_pos h46]
    · rw [if_neg (show ¬ nI c = (46 : Int32) from fun e => h46 ((nI_eq (b := 46) (by omega) (by omega)).mp e)), if_neg h46]
  generalize hmm : gp_md T = m at *
  generalize hU : T.2.2 7 m = u at *
  have h12 : M.1 12 m = nI u := by rw [(hT.2.2 m hm).1, hU]
  obtain ⟨b, hbv⟩ : ∃ b, b = (if u < 10 then 1 <<< u else 0) := ⟨_, rfl⟩
  obtain ⟨N, hN⟩ : ∃ N, N = gz_w (gz_w (gz_w (gz_w (gz_w (gz_w M 0 8 (nI (p + 1))) 6 T.1 (nI (T.2.2 2 T.1 + 1))) 12 m (nI (u + 1))) 0 21 0) 0 22 (nI b)) 0 23 (nI b) := ⟨_, rfl⟩
  have hb0 : gz_b01 0 = true := by decide
  have h10 : (10 : Int32) * nI m + nI u = nI (10 * m + u) := by rw [show (10 : Int32) = nI 10 from rfl, pk_mul, nI_add]
  have e1 : f12_readLetter_28 (nI T.1) (nI m) (nI k) M = if u < 10 then some (gz_w (gz_w N 13 (10 * m + u) (nI k)) 14 (10 * m + u) 0) else some N := by
    unfold f12_readLetter_28
    rw [ha.2.2.2.1, nI_1, gp_eL, gp_ckb (show T.1 < 8 by omega) (by omega), gp_ckb (show T.1 < 8 by omega) (by omega), nI_clamp (by omega), gp_gn (by omega), hc.2, nI_1, gp_eL, gp_ckb hm (by omega), nI_clamp (by omega), gp_gn (by omega), gp_gn (by omega), h12, gp_eL, gp_ckb hm (by omega), gp_ckb hm (by omega), nI_1, gp_eL, hb0, gp_eC, gp_eL]
    by_cases hu10 : u < 10
    · rw [if_neg (show ¬ (10 : Int32) ≤ nI u from nI_ge (b := 10) (by omega) (by omega)), if_pos hu10, show gz_shl 1 (nI u) = nI (1 <<< u) from gp_shl1 (by omega)]
      unfold f12_readLetter_88
      rw [gp_eL, gp_gs, gp_eL, if_pos (show nI u < (10 : Int32) from nI_lt (b := 10) (by omega) (by omega)), h10, gp_ckb (show 10 * m + u < 40 by omega) (by omega), nI_clamp (by omega), gp_eL, gp_ckb (show 10 * m + u < 40 by omega) (by omega), gp_eL, hN, hbv, if_pos hu10]
    · rw [if_pos (show (10 : Int32) ≤ nI u from nI_le (a := 10) (by omega) (by omega)), if_neg hu10]
      unfold f12_readLetter_88
      rw [gp_eL, gp_gs, gp_eL, if_neg (show ¬ nI u < (10 : Int32) from nI_nlt (b := 10) (by omega) (by omega)), hN, hbv, if_neg hu10]
      rfl
  have nF : gp_rF M N := by
    rw [hN]
    exact (((((gp_rF.w0 _ (by omega)).trans (gp_rF.w _ (by omega))).trans (gp_rF.w _ (by omega))).trans (gp_rF.w0 _ (by omega))).trans (gp_rF.w0 _ (by omega))).trans (gp_rF.w0 _ (by omega))
  have n6 : ∀ i, N.1 6 i = if i = T.1 then nI (T.2.2 2 T.1 + 1) else M.1 6 i := fun i => by
    rw [hN, gp_gn (by omega), gp_gn (by omega), gp_gn (by omega), gp_gn (by omega)]
    by_cases hi : i = T.1
    · rw [hi, gp_gs, if_pos rfl]
    · rw [gp_gn (by omega), gp_gn (by omega), if_neg hi]
  have n12 : ∀ i, N.1 12 i = if i = m then nI (u + 1) else M.1 12 i := fun i => by
    rw [hN, gp_gn (by omega), gp_gn (by omega), gp_gn (by omega)]
    by_cases hi : i = m
    · rw [hi, gp_gs, if_pos rfl]
    · rw [gp_gn (by omega), gp_gn (by omega), gp_gn (by omega), if_neg hi]
  have n1314 : ∀ a, a = 13 ∨ a = 14 → N.1 a = M.1 a := fun a h => by
    rw [hN, gp_wc _ (by omega), gp_wc _ (by omega), gp_wc _ (by omega), gp_wc _ (by omega), gp_wc _ (by omega), gp_wc _ (by omega)]
  have n8 : N.1 0 8 = nI (p + 1) := by
    rw [hN, gp_gn (by omega), gp_gn (by omega), gp_gn (by omega), gp_gn (by omega), gp_gn (by omega), gp_gs]
  have n9 : N.1 0 9 = M.1 0 9 := by
    rw [hN, gp_gn (by omega), gp_gn (by omega), gp_gn (by omega), gp_gn (by omega), gp_gn (by omega), gp_gn (by omega)]
  have n24 : N.1 0 24 = M.1 0 24 := by
    rw [hN, gp_gn (by omega), gp_gn (by omega), gp_gn (by omega), gp_gn (by omega), gp_gn (by omega), gp_gn (by omega)]
  have n21 : N.1 0 21 = 0 := by rw [hN, gp_gn (by omega), gp_gn (by omega), gp_gs]
  have n22 : N.1 0 22 = nI b := by rw [hN, gp_gn (by omega), gp_gs]
  have n23 : N.1 0 23 = nI b := by rw [hN, gp_gs]
  have fin : ∀ M', f12_readLetter_28 (nI T.1) (nI m) (nI k) M = some M' → gp_rF N M' → (∀ a, a ≠ 13 → a ≠ 14 → M'.1 a = N.1 a) → (∀ i, M'.1 13 i = if u < 10 ∧ i = 10 * m + u then nI k else M.1 13 i) → (∀ i, M'.1 14 i = if u < 10 ∧ i = 10 * m + u then nI 0 else M.1 14 i) → ∃ M', f12_readLetter (nI T.1) M = some M' ∧ gp_rF M M' ∧ gp_at M' t (p + 1) ∧ gp_tP M' (gp_aL T c) ∧ gp_tc M' (gp_aL T c) ∧ gp_pc M' (gp_pL T) ∧ M'.1 0 24 = M.1 0 24 := by
    intro M' r1 r2 r3 r13 r14
    have hF := nF.trans r2
    have r0 : ∀ i, M'.1 0 i = N.1 0 i := fun i => by rw [r3 0 (by omega) (by omega)]
    refine ⟨M', by rw [e28]; exact r1, hF, ⟨h80, by omega, ?_, ?_, ?_, fun i hi => ?_⟩, ?_, ⟨?_, ?_⟩, ⟨?_, ?_, ?_⟩, ?_⟩
    · rw [hF.2.2 7 (by omega) (by omega) (by omega)]; exact ha.2.2.1
    · rw [r0, n8]
    · rw [r0, n9]; exact ha.2.2.2.2.1
    · rw [hF.2.1 4 (by omega) (by omega) (by omega) (by omega) (by omega)]; exact ha.2.2.2.2.2 i hi
    · refine gp_tP_let (u := u) (k := k) (b := 0) hT hb (by rw [hmm]; exact hm) (by rw [hmm]; exact hU) hk8 hkc (fun a h => hF.2.1 a (by omega) (by omega) (by omega) (by omega) (by omega)) (fun i hi => ?_) (fun i => ?_) (fun i => by rw [hmm]; exact r13 i) (fun i => by rw [hmm]; exact r14 i)
      · rw [r3 6 (by omega) (by omega), n6, if_neg (by omega)]
      · rw [hmm, r3 12 (by omega) (by omega), n12]
    · show M'.1 5 T.1 = nI (gp_md (gp_aL T c))
      rw [gp_aL_md, hF.2.1 5 (by omega) (by omega) (by omega) (by omega) (by omega)]
      exact hc.1
    · show M'.1 6 T.1 = nI ((gp_aL T c).2.2 2 T.1)
      rw [r3 6 (by omega) (by omega), n6, if_pos rfl]
      unfold gp_aL
      dsimp only
      rw [if_neg (by omega), if_pos ⟨rfl, rfl⟩]
    · rw [r0, n21]
      unfold gp_pL
      split <;> rfl
    · rw [r0, n22, hbv]
      unfold gp_pL
      rw [hmm, hU]
      split <;> rfl
    · rw [r0, n23, hbv]
      unfold gp_pL
      rw [hmm, hU]
      split <;> rfl
    · rw [r0, n24]
  by_cases hu10 : u < 10
  · rw [if_pos hu10] at e1
    refine fin _ e1 ((gp_rF.w _ (by omega)).trans (gp_rF.w _ (by omega))) (fun a h1 h2 => by rw [gp_wc _ h2, gp_wc _ h1]) (fun i => ?_) (fun i => ?_)
    · rw [gp_gn (by omega)]
      by_cases hi : i = 10 * m + u
      · rw [hi, gp_gs, if_pos ⟨hu10, rfl⟩]
      · rw [gp_gn (by omega), n1314 13 (by omega), if_neg (fun h => hi h.2)]
    · by_cases hi : i = 10 * m + u
      · rw [hi, gp_gs, if_pos ⟨hu10, rfl⟩]; rfl
      · rw [gp_gn (by omega), gp_gn (by omega), n1314 14 (by omega), if_neg (fun h => hi h.2)]
  · rw [if_neg hu10] at e1
    exact fin _ e1 (gp_rF.refl N) (fun a _ _ => rfl) (fun i => by rw [n1314 13 (by omega), if_neg (fun h => hu10 h.1)]) (fun i => by rw [n1314 14 (by omega), if_neg (fun h => hu10 h.1)])
end
end
section
/-! rules told as a text: the reference reads the marks behind a part -/
section
variable {M M' : gz_M} {t : List Nat} {p c : Nat} {s : gp_S}
theorem gp_stp_suf (h3 : s.1 = 3) (hc : c = 42 ∨ c = 43 ∨ c = 63) : gp_stp s c = some (gp_suf s c) := by
  unfold gp_stp
  have hl : ¬ (gp_isL c = true ∨ c = 40) := by rcases hc with rfl | rfl | rfl <;> decide
  rw [if_neg (by omega), if_neg (by omega), if_neg (by omega), if_pos h3, if_neg hl, if_pos hc]
theorem gp_tc_sm {T T' : gp_T} (h : gp_tc M T) (hs : gp_sm1 T T') : gp_tc M T' := by
  unfold gp_tc
  rw [hs.1, hs.md, hs.2.2.1 2 (by omega)]
  exact h
theorem gp_suf136 {P : gp_P} {r : Nat} (W : Int32 → gz_M → Option gz_M) (c102 : Int32 → gz_M → Option gz_M) (hg : gp_good M t p s s.2.1) (h3 : s.1 = 3) (hP : s.2.2.2 = some P) (hp : gp_pc M P) (hr : s.2.1.1 = r) (hc : c = 42 ∨ c = 43 ∨ c = 63) (hh : gp_hr t p = some c) : ∃ M1, f12_readPart_136 W c102 (nI r) M = c102 (nI r) M1 ∧ gp_rF M M1 ∧ gp_good M1 t (p + 1) (gp_suf s c) (gp_suf s c).2.1 ∧ gp_pc M1 (P.1, P.2.1, (if c = 43 then P.2.2 else true)) := by
  obtain ⟨g1, g2, g3, g4, g5, g6, g7⟩ := hg
  obtain ⟨hc256, hpl, htp⟩ := gp_hr_lt g1 hh
  have h7 := g2.1.2.2.1
  have hcc := g2.2.2.1 (by omega)
  have hmd4 := hcc.1
  have hPok := hcc.2.2.2.2.2 P hP
  have hst : gp_stp s (t.getD p 0) = some (gp_suf s c) := by rw [htp]; exact gp_stp_suf h3 hc
  have hs : gp_suf s c = (3, (if c = 63 then s.2.1 else gp_lnk s.2.1 P.2.1 P.1), s.2.2.1, some (P.1, P.2.1, (if c = 43 then P.2.2 else true))) := by
    unfold gp_suf
    rw [hP]
  have hsm : gp_sm1 s.2.1 (if c = 63 then s.2.1 else gp_lnk s.2.1 P.2.1 P.1) := by
    split
    · exact gp_sm1.refl _
    · exact gp_lnk_sm _ _ _ hmd4
  have ceq : ∀ n : Nat, n < 256 → ((nI c = nI n) ↔ c = n) := fun n hn => nI_eq (by omega) (by omega)
  -- behind the letters joined
  have e163 : ∀ N, gp_rF M N → (∀ i, N.1 0 i = M.1 0 i) → gp_tP N (if c = 63 then s.2.1 else gp_lnk s.2.1 P.2.1 P.1) → (∀ a, a ≠ 14 → N.1 a = M.1 a) → ∃ M1, f12_readPart_163 W c102 (nI r) N = c102 (nI r) M1 ∧ gp_rF M M1 ∧ gp_good M1 t (p + 1) (gp_suf s c) (gp_suf s c).2.1 ∧ gp_pc M1 (P.1, P.2.1, (if c = 43 then P.2.2 else true)) := by
    intro N nF n0 nT n14
    have aN : gp_at N t p := g1.frF nF (n0 8) (n0 9)
    have good : ∀ M1, gp_rF N M1 → gp_at M1 t (p + 1) → (∀ a, a ≠ 0 → M1.1 a = N.1 a) → M1.1 0 24 = N.1 0 24 → gp_good M1 t (p + 1) (gp_suf s c) (gp_suf s c).2.1 := fun M1 m1 m2 m3 m4 => by
      refine ⟨m2, gp_stp_w (by rw [← htp] at hc256; exact hc256) g2 hst, gp_itr_s g3 hst, gp_good_u g2 (by rw [← htp] at hc256; exact hc256) hst g4, ?_, ?_, ?_⟩
      · rw [hs]
        exact nT.fr (fun a h1 h2 => m3 a (by omega))
      · rw [hs]
        have q : gp_tc M1 s.2.1 := by
          unfold gp_tc
          rw [m3 5 (by omega), m3 6 (by omega), n14 5 (by omega), n14 6 (by omega)]
          exact g6
        exact gp_tc_sm q hsm
      · rw [hs, m4, n0]
        exact g7
    unfold f12_readPart_163
    rw [gp_hereE aN, gp_eB2, hh, show gp_o (some c) = nI c from rfl]
    by_cases h43 : c = 43
    · rw [if_pos (show nI c = 43 from (ceq 43 (by omega)).mpr h43), n0, g1.2.2.2.1, nI_1, gp_eL]
      refine ⟨_, rfl, nF.trans (gp_rF.w0 _ (by omega)), good _ (gp_rF.w0 _ (by omega)) (aN.nx hpl) (fun a ha => gp_wc _ ha) (gp_gn (by omega)), ?_⟩
      rw [if_pos h43]
      refine ⟨?_, ?_, ?_⟩
      · rw [gp_gn (by omega), n0]; exact hp.1
      · rw [gp_gn (by omega), n0]; exact hp.2.1
      · rw [gp_gn (by omega), n0]; exact hp.2.2
    · rw [if_neg (show ¬ nI c = 43 from fun h => h43 ((ceq 43 (by omega)).mp h)), show gz_b01 1 = true from by decide, gp_eC, gp_eL, gp_gn (by omega), n0, g1.2.2.2.1, nI_1, gp_eL]
      have aN' : gp_at (gz_w N 0 21 1) t p := aN.frF (gp_rF.w0 _ (by omega)) (by rw [gp_gn (by omega)]) (by rw [gp_gn (by omega)])
      refine ⟨_, rfl, (nF.trans (gp_rF.w0 _ (by omega))).trans (gp_rF.w0 _ (by omega)), good _ ((gp_rF.w0 _ (by omega)).trans (gp_rF.w0 _ (by omega))) (aN'.nx hpl) (fun a ha => by rw [gp_wc _ ha, gp_wc _ ha]) (by rw [gp_gn (by omega), gp_gn (by omega)]), ?_⟩
      rw [if_neg h43]
      refine ⟨?_, ?_, ?_⟩
      · rw [gp_gn (by omega), gp_gs]; rfl
      · rw [gp_gn (by omega), gp_gn (by omega), n0]; exact hp.2.1
      · rw [gp_gn (by omega), gp_gn (by omega), n0]; exact hp.2.2
  unfold f12_readPart_136
  rw [gp_hereE g1, gp_eB2, hh, show gp_o (some c) = nI c from rfl]
  by_cases h63 : c = 63
  · rw [if_pos (show nI c = 63 from (ceq 63 (by omega)).mpr h63)]
    exact e163 M (gp_rF.refl M) (fun i => rfl) (by rw [if_pos h63]; exact g5) (fun _ _ => rfl)
  · have g61 := g6.1
    rw [hr] at g61
    rw [if_neg (show ¬ nI c = 63 from fun h => h63 ((ceq 63 (by omega)).mp h)), gp_ckb (show r < 8 by omega) (by omega), nI_clamp (by omega), g61, hp.2.2, hp.2.1]
    obtain ⟨N, f1, f2, f3, f4⟩ := gp_folE (a := P.2.1) (f := P.1) g5 hmd4 hPok.2
    rw [f1, gp_eB]
    exact e163 N (gp_rF.of14 f2 f3) (fun i => by rw [f3 0 (by omega)]) (by rw [if_neg h63]; exact f4) f3
/-- the marks behind a part -/
theorem gp_sufL (W : Int32 → gz_M → Option gz_M) {r : Nat} : ∀ (n p : Nat) (s : gp_S) (M : gz_M) (P : gp_P), t.length < p + n → gp_good M t p s s.2.1 → s.1 = 3 → s.2.2.2 = some P → gp_pc M P → s.2.1.1 = r → ∃ M' p' s' P', f12_readPart_102 W n (nI r) M = some M' ∧ gp_rF M M' ∧ gp_good M' t p' s' s'.2.1 ∧ s'.1 = 3 ∧ s'.2.2.1 = s.2.2.1 ∧ s'.2.2.2 = some P' ∧ gp_pc M' P' ∧ s'.2.1.1 = r ∧ p ≤ p' ∧ ¬ (gp_hr t p' = some 42 ∨ gp_hr t p' = some 43 ∨ gp_hr t p' = some 63) ∧ gp_md s'.2.1 = gp_md s.2.1 := by
  intro n
  induction n with
  | zero =>
    intro p s M P hn hg
    have := hg.1.2.1
    omega
  | succ n ih =>
    intro p s M P hn hg h3 hP hp hr
    have g1 := hg.1
    have ho : ∀ q, gp_hr t p = some q → q < 256 := fun q hq => (gp_hr_lt g1 hq).1
    have heq : ∀ k : Nat, k < 256 → ((gp_o (gp_hr t p) = nI k) ↔ gp_hr t p = some k) := fun k hk => gp_oEq ho (by omega)
    have go : ∀ c, c = 42 ∨ c = 43 ∨ c = 63 → gp_hr t p = some c → ∃ M' p' s' P', f12_readPart_136 W (f12_readPart_102 W n) (nI r) M = some M' ∧ gp_rF M M' ∧ gp_good M' t p' s' s'.2.1 ∧ s'.1 = 3 ∧ s'.2.2.1 = s.2.2.1 ∧ s'.2.2.2 = some P' ∧ gp_pc M' P' ∧ s'.2.1.1 = r ∧ p ≤ p' ∧ ¬ (gp_hr t p' = some 42 ∨ gp_hr t p' = some 43 ∨ gp_hr t p' = some 63) ∧ gp_md s'.2.1 = gp_md s.2.1 := by
      intro c hc hh
      have hmd4 := (hg.2.1.2.2.1 (by omega)).1
      have hs : gp_suf s c = (3, (if c = 63 then s.2.1 else gp_lnk s.2.1 P.2.1 P.1), s.2.2.1, some (P.1, P.2.1, (if c = 43 then P.2.2 else true))) := by
        unfold gp_suf
        rw [hP]
      have hsm : gp_sm1 s.2.1 (gp_suf s c).2.1 := by
        rw [hs]
        dsimp only
        split
        · exact gp_sm1.refl _
        · exact gp_lnk_sm _ _ _ hmd4
      obtain ⟨M1, a1, a2, a3, a4⟩ := gp_suf136 W (f12_readPart_102 W n) hg h3 hP hp hr hc hh
      obtain ⟨M', p', s', P', b1, b2, b3, b4, b5, b6, b7, b8, b9, b10, b11⟩ := ih (p + 1) (gp_suf s c) M1 (P.1, P.2.1, (if c = 43 then P.2.2 else true)) (by omega) a3 (by rw [hs]) (by rw [hs]) a4 (by rw [hsm.1]; exact hr)
      exact ⟨M', p', s', P', by rw [a1]; exact b1, a2.trans b2, b3, b4, by rw [b5, hs], b6, b7, b8, by omega, b10, by rw [b11, hsm.md]⟩
    rw [f12_readPart_102, gp_fineE g1, gp_eB2, if_neg (show ¬ (1 : Int32) = 0 by decide), gp_hereE g1, gp_eB2]
    by_cases h42 : gp_hr t p = some 42
    · rw [if_pos (show gp_o (gp_hr t p) = 42 from (heq 42 (by omega)).mpr h42)]
      exact go 42 (by omega) h42
    · rw [if_neg (show ¬ gp_o (gp_hr t p) = 42 from fun h => h42 ((heq 42 (by omega)).mp h)), gp_hereE g1, gp_eB2]
      by_cases h43 : gp_hr t p = some 43
      · rw [if_pos (show gp_o (gp_hr t p) = 43 from (heq 43 (by omega)).mpr h43)]
        exact go 43 (by omega) h43
      · rw [if_neg (show ¬ gp_o (gp_hr t p) = 43 from fun h => h43 ((heq 43 (by omega)).mp h)), gp_hereE g1, gp_eB2]
        by_cases h63 : gp_hr t p = some 63
        · rw [if_pos (show gp_o (gp_hr t p) = 63 from (heq 63 (by omega)).mpr h63)]
          exact go 63 (by omega) h63
        · rw [if_neg (show ¬ gp_o (gp_hr t p) = 63 from fun h => h63 ((heq 63 (by omega)).mp h))]
          exact ⟨M, p, s, P, rfl, gp_rF.refl M, hg, h3, rfl, hP, hp, hr, Nat.le_refl _, fun h => h.elim h42 (fun h => h.elim h43 h63), rfl⟩
end
end
section
/-! rules told as a text: the reference reads a part -/
def gp_noSuf (t : List Nat) (p : Nat) : Prop := ¬ (gp_hr t p = some 42 ∨ gp_hr t p = some 43 ∨ gp_hr t p = some 63)
/-- what a way leaves, at k brackets -/
def gp_wayS (t : List Nat) (r k : Nat) (W : Int32 → gz_M → Option gz_M) : Prop := ∀ (p : Nat) (s : gp_S) (M : gz_M) (L : List (Option gp_P × Option gp_P)), gp_good M t p s s.2.1 → s.1 = 2 → s.2.2.1 = (none, none) :: L → L.length = k → s.2.1.1 = r → ∃ M', W (nI r) M = some M' ∧ gp_rF M M' ∧ (gp_bad M' t ∨ ∃ p' s' w ch wh, gp_good M' t p' s' (gp_eP s').2.1 ∧ s'.1 = 3 ∧ s'.2.2.1 = (ch, wh) :: L ∧ gp_unO wh (gp_mgO ch s'.2.2.2) = some w ∧ gp_pc M' w ∧ s'.2.1.1 = r ∧ p < p' ∧ gp_noSuf t p' ∧ gp_isP (gp_hr t p') = false ∧ ¬ gp_hr t p' = some 124)
section
variable {M M' : gz_M} {t : List Nat} {p c : Nat} {s : gp_S}
theorem gp_bad.nf (h : gp_bad M t) (h80 : t.length ≤ 80) : ∃ q, q < 2 ^ 31 ∧ M.1 0 9 = nI q := by
  obtain ⟨q, s, _, h2, _, _, h5⟩ := h
  exact ⟨q, by omega, h5⟩
theorem gp_bad.w {i : Nat} {v : Int32} (h : gp_bad M t) (hi : i ≠ 9) : gp_bad (gz_w M 0 i v) t := by
  obtain ⟨q, s, h1, h2, h3, h4, h5⟩ := h
  exact ⟨q, s, h1, h2, h3, h4, by rw [gp_gn (by omega)]; exact h5⟩
theorem gp_p0 (h : gp_itr t p 0 gp_s0 = some s) (h1 : s.1 ≠ 0) : 0 < p := by
  rcases Nat.eq_zero_or_pos p with h0 | h0
  · subst h0
    cases h
    exact absurd rfl h1
  · exact h0
theorem gp_102N {n : Nat} (W : Int32 → gz_M → Option gz_M) (x : Int32) (h : gp_bad M t) (h80 : t.length ≤ 80) : f12_readPart_102 W (n + 1) x M = some M := by
  obtain ⟨q, q1, q2⟩ := h.nf h80
  rw [f12_readPart_102, gp_nfine q2 q1, gp_eB2, if_pos rfl]
theorem gp_stp_inP (h : s.1 = 2 ∨ s.1 = 3) (hc : s.1 = 3 → gp_isL c = true ∨ c = 40) : gp_stp s c = gp_inP s c := by
  unfold gp_stp
  rcases h with h | h
  · rw [if_neg (by omega), if_neg (by omega), if_pos h]
  · rw [if_neg (by omega), if_neg (by omega), if_neg (by omega), if_pos h, if_pos (hc h)]
/-- a good state with other levels of the same machine step -/
theorem gp_rdPart {r k : Nat} {W : Int32 → gz_M → Option gz_M} (hW : k ≤ 6 → gp_wayS t r k W) (hg : gp_good M t p s (gp_eP s).2.1) (h23 : s.1 = 2 ∨ s.1 = 3) (hP : s.1 = 3 → gp_isP (gp_hr t p) = true) (hr : s.2.1.1 = r) (hk : s.2.2.1.length = k) : ∃ M', f12_readPart W (nI r) M = some M' ∧ gp_rF M M' ∧ (gp_bad M' t ∨ ∃ p' s' P, gp_good M' t p' s' s'.2.1 ∧ s'.1 = 3 ∧ s'.2.2.1 = (gp_eP s).2.2.1 ∧ s'.2.2.2 = some P ∧ gp_pc M' P ∧ s'.2.1.1 = r ∧ p < p' ∧ gp_noSuf t p') := by
  obtain ⟨g1, g2, g3, g4, g5, g6, g7⟩ := hg
  obtain ⟨f1, f2, f3, ch, wh, L, eL, eP1, eP2, eP3, eP4⟩ := gp_eP_f g2 (by omega)
  have h80 := g1.1
  have hpl := g1.2.1
  have h7 := g2.1.2.2.1
  have hl7 := g2.1.2.1
  have hmd4 := (g2.2.2.1 (by omega)).1
  have hmd : gp_md (gp_eP s).2.1 = gp_md s.2.1 := f1.md
  have hT1 : (gp_eP s).2.1.1 = r := by rw [f1.1]; exact hr
  have hp0 := gp_p0 g3 (by omega)
  have hlen := gp_eP_len s
  have hk1 : 0 < k := by rw [← hk, eL]; simp
  have ho : ∀ q, gp_hr t p = some q → q < 256 := fun q hq => (gp_hr_lt g1 hq).1
  have heq : ∀ k : Nat, k < 256 → ((gp_o (gp_hr t p) = nI k) ↔ gp_hr t p = some k) := fun k hk => gp_oEq ho (by omega)
  -- a letter
  have let23 : ∀ c, gp_hr t p = some c → gp_isL c = true → ∃ M', f12_readPart_23 W (nI r) M = some M' ∧ gp_rF M M' ∧ (gp_bad M' t ∨ ∃ p' s' P, gp_good M' t p' s' s'.2.1 ∧ s'.1 = 3 ∧ s'.2.2.1 = (gp_eP s).2.2.1 ∧ s'.2.2.2 = some P ∧ gp_pc M' P ∧ s'.2.1.1 = r ∧ p < p' ∧ gp_noSuf t p') := by
    intro c hh hl
    obtain ⟨hc256, hpl, htp⟩ := gp_hr_lt g1 hh
    have hst : gp_stp s (t.getD p 0) = some (gp_let s c) := by
      rw [htp, gp_stp_inP h23 (fun _ => Or.inl hl)]
      unfold gp_inP
      rw [if_pos hl]
    have hc' : t.getD p 0 < 256 := by rw [htp]; exact hc256
    obtain ⟨M1, e1, e2, e3, e4, e5, e6, e7⟩ := gp_rdLet g1 hh hl g5 g6 f2 (by rw [hmd]; exact hmd4) (by rw [f1.1]; exact h7) (by rw [hmd, f1.2.2.1 7 (by omega)]; have := g4 (gp_md s.2.1); omega)
    rw [hT1] at e1
    have good : gp_good M1 t (p + 1) (gp_let s c) (gp_let s c).2.1 := ⟨e3, gp_stp_w hc' g2 hst, gp_itr_s g3 hst, gp_good_u g2 hc' hst g4, e4, e5, by rw [e7, g7]; show _ = nI ((gp_eP s).2.2.1.length - 1); rw [hlen]⟩
    obtain ⟨M', p', s', P', b1, b2, b3, b4, b5, b6, b7, b8, b9, b10, _⟩ := gp_sufL W gz_FU (p + 1) (gp_let s c) M1 (gp_pL (gp_eP s).2.1) (by unfold gz_FU; omega) good rfl rfl e6 hT1
    unfold f12_readPart_23
    rw [e1, gp_eB]
    exact ⟨M', b1, e2.trans b2, Or.inr ⟨p', s', P', b3, b4, b5, b6, b7, b8, by omega, b10⟩⟩
  -- no bracket can stand there
  have no57 : ∀ M1, gp_rF M M1 → M1.1 0 9 = nI p → (p < t.length → gp_stp s (t.getD p 0) = none) → (p = t.length → s.1 = 2) → gp_bad M1 t := fun M1 _ h9 hn he => ⟨p, s, g3, hpl, hn, fun h => by
    have h2 := he h
    intro hm
    rcases hm with hm | hm | hm <;> omega, h9⟩
  have n57 : ∀ M1, M1.1 0 9 = nI p → f12_readPart_57 W (nI r) M1 = some M1 := fun M1 h9 => by
    unfold f12_readPart_57
    rw [gp_needN h9 (by omega), gp_eB, gp_nfine h9 (by omega), gp_eB2, if_pos rfl]
  have hstart : f12_readPart W (nI r) M = (if gp_isL ((gp_hr t p).getD 0) = true then f12_readPart_23 W (nI r) M else if gp_hr t p = some 40 then (if s.2.2.1.length = 7 then some (gz_w M 0 9 (nI p)) else f12_readPart_57 W (nI r) M) else f12_readPart_57 W (nI r) M) := by
    unfold f12_readPart
    rw [gp_hereE g1, gp_eB2, show (97 : Int32) = nI 97 from rfl, show (104 : Int32) = nI 104 from rfl, gp_inE g1 (by omega) (by omega), gp_eB2, gp_hereE g1, gp_eB2, gp_hereE g1, gp_eB2]
    cases e : gp_hr t p with
    | none =>
      rw [if_pos rfl, if_neg (show ¬ gp_o none = (46 : Int32) by decide), if_neg (show ¬ gp_o none = (40 : Int32) by decide), if_neg (by decide), if_neg (by simp)]
    | some c =>
      have hc := ho c e
      rw [show gp_o (some c) = nI c from rfl]
      show (if (if 97 ≤ c ∧ c ≤ 104 then (1 : Int32) else 0) = 0 then _ else _) = if gp_isL c = true then _ else _
      unfold gp_isL
      by_cases h1 : 97 ≤ c ∧ c ≤ 104
      · rw [if_neg (show ¬ ((if 97 ≤ c ∧ c ≤ 104 then (1 : Int32) else 0) = 0) from by rw [if_pos h1]; decide), if_pos (by simp [h1.1, h1.2])]
      · rw [if_pos (show (if 97 ≤ c ∧ c ≤ 104 then (1 : Int32) else 0) = 0 from if_neg h1)]
        by_cases h46 : c = 46
        · rw [if_pos (show nI c = 46 from by rw [h46]; rfl), if_pos (by simp [h46])]
        · rw [if_neg (show ¬ nI c = (46 : Int32) from fun e => h46 ((nI_eq (b := 46) (by omega) (by omega)).mp e)), if_neg (show ¬ ((c == 46 || (decide (97 ≤ c) && decide (c ≤ 104))) = true) from by simp [h46]; omega)]
          by_cases h40 : c = 40
          · rw [if_pos (show nI c = 40 from by rw [h40]; rfl), if_pos (show some c = some 40 by rw [h40]), g7]
            by_cases h6 : s.2.2.1.length = 7
            · rw [if_pos (show nI (s.2.2.1.length - 1) = 6 from by rw [h6]; rfl), if_pos h6, gp_faultE g1, gp_eB, n57 _ (gp_gs _ _ _ _)]
            · rw [if_neg (show ¬ nI (s.2.2.1.length - 1) = (6 : Int32) from fun e => by have := (nI_eq (b := 6) (by omega) (by omega)).mp e; omega), if_neg h6]
          · rw [if_neg (show ¬ nI c = (40 : Int32) from fun e => h40 ((nI_eq (b := 40) (by omega) (by omega)).mp e)), if_neg (fun e => h40 (Option.some.inj e))]
  rw [hstart]
  by_cases hL : gp_isL ((gp_hr t p).getD 0) = true
  · rw [if_pos hL]
    cases e : gp_hr t p with
    | none => rw [e] at hL; exact absurd hL (by decide)
    | some c =>
      rw [e] at hL
      exact let23 c e hL
  · rw [if_neg hL]
    by_cases h40 : gp_hr t p = some 40
    · obtain ⟨hc256, hpl', htp⟩ := gp_hr_lt g1 h40
      have hin : gp_stp s (t.getD p 0) = gp_inP s 40 := by rw [htp]; exact gp_stp_inP h23 (fun _ => Or.inr rfl)
      rw [if_pos h40]
      by_cases h6 : s.2.2.1.length = 7
      · rw [if_pos h6]
        refine ⟨_, rfl, gp_rF.w0 _ (by omega), Or.inl (no57 _ (gp_rF.w0 _ (by omega)) (gp_gs _ _ _ _) (fun _ => ?_) (fun h => by omega))⟩
        rw [hin]
        unfold gp_inP
        rw [if_neg (by decide), if_neg (by omega)]
      · rw [if_neg h6]
        have hLk : (gp_eP s).2.2.1.length = k := by rw [hlen]; exact hk
        have hst : gp_stp s (t.getD p 0) = some (gp_brk s) := by
          rw [hin]
          unfold gp_inP
          rw [if_neg (by decide), if_pos ⟨rfl, by omega⟩]
        have hc' : t.getD p 0 < 256 := by rw [htp]; exact hc256
        obtain ⟨N, hN⟩ : ∃ N, N = gz_w (gz_w M 0 8 (nI (p + 1))) 0 24 (nI k) := ⟨_, rfl⟩
        have aN0 : gp_at (gz_w M 0 8 (nI (p + 1))) t (p + 1) := g1.nx hpl'
        have nF : gp_rF M N := by rw [hN]; exact (gp_rF.w0 _ (by omega)).trans (gp_rF.w0 _ (by omega))
        have nc : ∀ a, a ≠ 0 → N.1 a = M.1 a := fun a ha => by rw [hN, gp_wc _ ha, gp_wc _ ha]
        have aN : gp_at N t (p + 1) := by rw [hN]; exact aN0.frF (gp_rF.w0 _ (by omega)) (gp_gn (by omega)) (gp_gn (by omega))
        have gN : gp_good N t (p + 1) (gp_brk s) (gp_brk s).2.1 := ⟨aN, gp_stp_w hc' g2 hst, gp_itr_s g3 hst, gp_good_u g2 hc' hst g4, g5.fr (fun a h1 h2 => nc a (by omega)), g6.fr (fun a h1 h2 => nc a (by omega)), by rw [hN, gp_gs]; show nI k = nI (((none, none) :: (gp_eP s).2.2.1).length - 1); rw [List.length_cons, hLk, Nat.add_sub_cancel]⟩
        obtain ⟨M8, w1, w2, w3⟩ := hW (by omega) (p + 1) (gp_brk s) N (gp_eP s).2.2.1 gN rfl rfl hLk hT1
        have e57 : f12_readPart_57 W (nI r) M = gz_bd (f12_need 41 M8) fun M10 => gz_lt (gz_w M10 0 24 (M10.1 0 24 - 1)) fun M12 => f12_readPart_102 W gz_FU (nI r) M12 := by
          unfold f12_readPart_57
          rw [show (40 : Int32) = nI 40 from rfl, gp_needE g1 (by omega), if_pos h40, gp_eB, gp_fineE aN0, gp_eB2, if_neg (show ¬ (1 : Int32) = 0 by decide), gp_gn (by omega), g7, nI_1, hk, Nat.sub_add_cancel hk1, gp_eL, ← hN, w1, gp_eB]
        rw [e57]
        rcases w3 with hb | ⟨p', s', w, ch', wh', a1, a2, a3, a4, a5, a6, a7, a8, a9, a10⟩
        · obtain ⟨q, q1, q2⟩ := hb.nf h80
          have hb' : gp_bad (gz_w M8 0 24 (M8.1 0 24 - 1)) t := hb.w (by omega)
          rw [gp_needN q2 q1, gp_eB, gp_eL, show gz_FU = 999999 + 1 from rfl, gp_102N W _ hb' h80]
          exact ⟨_, rfl, (nF.trans w2).trans (gp_rF.w0 _ (by omega)), Or.inl hb'⟩
        · obtain ⟨b1, b2, b3, b4, b5, b6, b7⟩ := a1
          have hl2 : s'.2.2.1.length = k + 1 := by rw [a3, List.length_cons, hLk]
          have hsuf : ∀ c, gp_hr t p' = some c → ¬ (c = 42 ∨ c = 43 ∨ c = 63) := fun c hc h => a8 (by rcases h with rfl | rfl | rfl <;> simp [hc])
          have hip : ∀ c, gp_hr t p' = some c → ¬ (gp_isL c = true ∨ c = 40) := fun c hc h => by
            rw [hc] at a9
            unfold gp_isP at a9
            rcases h with h | h
            · simp [h] at a9
            · simp [h] at a9
          rw [show (41 : Int32) = nI 41 from rfl, gp_needE b1 (by omega)]
          by_cases h41 : gp_hr t p' = some 41
          · obtain ⟨_, hpl2, htp2⟩ := gp_hr_lt b1 h41
            have hst2 : gp_stp s' (t.getD p' 0) = some (gp_cls s') := by
              rw [htp2]
              unfold gp_stp
              rw [if_neg (by omega), if_neg (by omega), if_neg (by omega), if_pos a2, if_neg (hip 41 h41), if_neg (by decide), if_neg (by decide), if_pos rfl, if_neg (by omega)]
            have hc2 : t.getD p' 0 < 256 := by rw [htp2]; decide
            obtain ⟨ch2, wh2, L2, eL2, eC2⟩ := gp_eCh_f b2 (by omega)
            rw [a3] at eL2
            cases eL2
            have hcl : gp_cls s' = (3, (gp_eP s').2.1, (gp_eP s).2.2.1, some w) := by
              unfold gp_cls
              rw [eC2, a4]
            have hsm2 := (gp_eP_f b2 (by omega)).1
            have aQ : gp_at (gz_w M8 0 8 (nI (p' + 1))) t (p' + 1) := b1.nx hpl2
            have b7' : M8.1 0 24 = nI k := by rw [b7, hl2, Nat.add_sub_cancel]
            rw [if_pos h41, gp_eB, gp_gn (by omega), b7', gp_eL]
            obtain ⟨k', rfl⟩ : ∃ k', k = k' + 1 := ⟨k - 1, by omega⟩
            rw [nI_pred]
            have cQ : ∀ a, a ≠ 0 → (gz_w (gz_w M8 0 8 (nI (p' + 1))) 0 24 (nI k')).1 a = M8.1 a := fun a ha => by rw [gp_wc _ ha, gp_wc _ ha]
            have gQ : gp_good (gz_w (gz_w M8 0 8 (nI (p' + 1))) 0 24 (nI k')) t (p' + 1) (gp_cls s') (gp_cls s').2.1 := by
              refine ⟨aQ.frF (gp_rF.w0 _ (by omega)) (gp_gn (by omega)) (gp_gn (by omega)), gp_stp_w hc2 b2 hst2, gp_itr_s b3 hst2, gp_good_u b2 hc2 hst2 b4, ?_, ?_, ?_⟩
              · rw [hcl]; exact b5.fr (fun a h1 h2 => cQ a (by omega))
              · rw [hcl]; exact b6.fr (fun a h1 h2 => cQ a (by omega))
              · rw [gp_gs, hcl]
                show nI k' = nI ((gp_eP s).2.2.1.length - 1)
                rw [hLk, Nat.add_sub_cancel]
            have pQ : gp_pc (gz_w (gz_w M8 0 8 (nI (p' + 1))) 0 24 (nI k')) w := by
              refine ⟨?_, ?_, ?_⟩
              · rw [gp_gn (by omega), gp_gn (by omega)]; exact a5.1
              · rw [gp_gn (by omega), gp_gn (by omega)]; exact a5.2.1
              · rw [gp_gn (by omega), gp_gn (by omega)]; exact a5.2.2
            obtain ⟨M', p2, s2, P2, c1, c2, c3, c4, c5, c6, c7, c8, c9, c10, _⟩ := gp_sufL W (r := r) gz_FU (p' + 1) (gp_cls s') _ w (by unfold gz_FU; omega) gQ (by rw [hcl]) (by rw [hcl]) pQ (by rw [hcl]; show (gp_eP s').2.1.1 = r; rw [hsm2.1]; exact a6)
            exact ⟨M', c1, (((nF.trans w2).trans (gp_rF.w0 _ (by omega))).trans (gp_rF.w0 _ (by omega))).trans c2, Or.inr ⟨p2, s2, P2, c3, c4, by rw [c5, hcl], c6, c7, c8, by omega, c10⟩⟩
          · have hb' : gp_bad (gz_w (gz_w M8 0 9 (nI p')) 0 24 ((gz_w M8 0 9 (nI p')).1 0 24 - 1)) t := by
              refine gp_bad.w ⟨p', s', b3, b1.2.1, fun hlt => ?_, fun he hm => ?_, gp_gs _ _ _ _⟩ (by omega)
              · have e : gp_hr t p' = some (t.getD p' 0) := by unfold gp_hr; rw [if_pos hlt]
                unfold gp_stp
                rw [if_neg (by omega), if_neg (by omega), if_neg (by omega), if_pos a2, if_neg (hip _ e), if_neg (hsuf _ e), if_neg (fun h => a10 (by rw [e, h])), if_neg (fun h => h41 (by rw [e, h])), if_neg (by omega)]
              · rcases hm with hm | hm | hm <;> omega
            rw [if_neg h41, gp_eB, gp_eL, show gz_FU = 999999 + 1 from rfl, gp_102N W _ hb' h80]
            exact ⟨_, rfl, ((nF.trans w2).trans (gp_rF.w0 _ (by omega))).trans (gp_rF.w0 _ (by omega)), Or.inl hb'⟩
    · rw [if_neg h40]
      have e57 : f12_readPart_57 W (nI r) M = some (gz_w M 0 9 (nI p)) := by
        unfold f12_readPart_57
        rw [show (40 : Int32) = nI 40 from rfl, gp_needE g1 (by omega), if_neg h40, gp_eB, gp_nfine (gp_gs _ _ _ _) (by omega), gp_eB2, if_pos rfl]
      have h2 : s.1 = 2 := by
        rcases h23 with h | h
        · exact h
        · have := hP h
          cases e : gp_hr t p with
          | none => rw [e] at this; cases this
          | some c =>
            rw [e] at this hL h40
            unfold gp_isP at this
            have hL : ¬ gp_isL c = true := hL
            have h4 : ¬ c = 40 := fun h => h40 (by rw [h])
            simp [hL, h4] at this
      refine ⟨_, e57, gp_rF.w0 _ (by omega), Or.inl (no57 _ (gp_rF.w0 _ (by omega)) (gp_gs _ _ _ _) (fun hlt => ?_) (fun _ => h2))⟩
      have e : gp_hr t p = some (t.getD p 0) := by unfold gp_hr; rw [if_pos hlt]
      rw [e] at hL h40
      have hL : ¬ gp_isL (t.getD p 0) = true := hL
      rw [gp_stp_inP h23 (fun h => by omega)]
      unfold gp_inP
      rw [if_neg hL, if_neg (fun h => h40 (by rw [h.1]))]
end
end
section
/-! rules told as a text: the reference reads a chain -/
section
variable {M M' : gz_M} {t : List Nat} {p c : Nat} {s : gp_S}
theorem gp_c71 (W : Int32 → gz_M → Option gz_M) (c5 : Int32 → gz_M → Option gz_M) (x v a b : Int32) (M : gz_M) : f12_readChain_71 W c5 x v a b M = c5 x (gz_w (gz_w (gz_w M 0 22 b) 0 23 (if M.1 0 21 = 0 then M.1 0 23 else a ||| M.1 0 23)) 0 21 (if v = 0 then 0 else if M.1 0 21 = 0 then 0 else 1)) := by
  have h0 : gz_b01 0 = true := by decide
  have h1 : gz_b01 1 = true := by decide
  have e96 : ∀ N z, N.1 0 21 = M.1 0 21 → f12_readChain_96 W c5 x v z N = c5 x (gz_w (gz_w N 0 23 z) 0 21 (if v = 0 then 0 else if M.1 0 21 = 0 then 0 else 1)) := fun N z hN => by
    unfold f12_readChain_96
    rw [gp_eL, gp_gn (by omega), hN, h0, h1]
    by_cases hv : v = 0
    · rw [if_pos hv, if_pos hv]; rfl
    · rw [if_neg hv, if_neg hv]
      by_cases hm : M.1 0 21 = 0
      · rw [if_pos hm, if_pos hm]; rfl
      · rw [if_neg hm, if_neg hm]; rfl
  unfold f12_readChain_71
  rw [gp_eL, gp_gn (by omega), gp_gn (by omega)]
  by_cases hm : M.1 0 21 = 0
  · rw [if_pos hm, e96 _ _ (gp_gn (by omega)), if_pos hm, if_pos hm]
  · rw [if_neg hm, e96 _ _ (gp_gn (by omega)), if_neg hm, if_neg hm]
theorem gp_chL {r k : Nat} {W : Int32 → gz_M → Option gz_M} (hW : k ≤ 6 → gp_wayS t r k W) {wh : Option gp_P} {L : List (Option gp_P × Option gp_P)} (hk : L.length + 1 = k) : ∀ (n p : Nat) (s : gp_S) (M : gz_M) (ch : Option gp_P) (q : gp_P), t.length < p + n → gp_good M t p s (gp_eP s).2.1 → s.1 = 3 → s.2.2.1 = (ch, wh) :: L → gp_mgO ch s.2.2.2 = some q → gp_pc M q → s.2.1.1 = r → gp_noSuf t p → ∃ M', f12_readChain_5 W n (nI r) M = some M' ∧ gp_rF M M' ∧ (gp_bad M' t ∨ ∃ p' s' ch' q', gp_good M' t p' s' (gp_eP s').2.1 ∧ s'.1 = 3 ∧ s'.2.2.1 = (ch', wh) :: L ∧ gp_mgO ch' s'.2.2.2 = some q' ∧ gp_pc M' q' ∧ s'.2.1.1 = r ∧ p ≤ p' ∧ gp_noSuf t p' ∧ gp_isP (gp_hr t p') = false) := by
  intro n
  induction n with
  | zero =>
    intro p s M ch q hn hg
    have := hg.1.2.1
    omega
  | succ n ih =>
    intro p s M ch q hn hg h3 hL hq hp hr hs
    have g1 := hg.1
    have h80 := g1.1
    have hw := hg.2.1
    have h7 := hw.1.2.2.1
    obtain ⟨f1, f2, f3, ch0, wh0, L0, eL, eP1, eP2, eP3, eP4⟩ := gp_eP_f hw (by omega)
    rw [hL] at eL
    cases eL
    have hmd4 := (hw.2.2.1 (by omega)).1
    have hT1 : (gp_eP s).2.1.1 = r := by rw [f1.1]; exact hr
    rw [f12_readChain_5, gp_fineE g1, gp_eB2, if_neg (show ¬ (1 : Int32) = 0 by decide), gp_isPE g1, gp_eB2]
    cases hip : gp_isP (gp_hr t p) with
    | false =>
      rw [if_pos (show (if false = true then (1 : Int32) else 0) = 0 from rfl)]
      exact ⟨M, rfl, gp_rF.refl M, Or.inr ⟨p, s, ch, q, hg, h3, hL, hq, hp, hr, Nat.le_refl _, hs, hip⟩⟩
    | true =>
      rw [if_neg (show ¬ (if true = true then (1 : Int32) else 0) = 0 from by decide)]
      have hlk : s.2.2.1.length = k := by rw [hL, List.length_cons]; exact hk
      obtain ⟨N, e1, e2, e3⟩ := gp_rdPart hW hg (Or.inr h3) (fun _ => hip) hr hlk
      have hm5 : N.1 5 r = nI (gp_md s.2.1) := by
        rw [e2.2.1 5 (by omega) (by omega) (by omega) (by omega) (by omega), ← hT1, hg.2.2.2.2.2.1.1, f1.md]
      rw [gp_eL, gp_eL, gp_eL, e1, gp_eB, gp_ckb (show r < 8 by omega) (by omega), nI_clamp (by omega), hm5]
      have all71 : ∀ N2, (if M.1 0 21 = 0 then f12_readChain_71 W (f12_readChain_5 W n) (nI r) (M.1 0 21) (M.1 0 23) (M.1 0 22) N2 else f12_readChain_71 W (f12_readChain_5 W n) (nI r) (M.1 0 21) (M.1 0 23) (M.1 0 22 ||| N2.1 0 22) N2) = f12_readChain_5 W n (nI r) (gz_w (gz_w (gz_w N2 0 22 (if M.1 0 21 = 0 then M.1 0 22 else M.1 0 22 ||| N2.1 0 22)) 0 23 (if N2.1 0 21 = 0 then N2.1 0 23 else M.1 0 23 ||| N2.1 0 23)) 0 21 (if M.1 0 21 = 0 then 0 else if N2.1 0 21 = 0 then 0 else 1)) := fun N2 => by
        by_cases h : M.1 0 21 = 0
        · rw [if_pos h, gp_c71, if_pos h, if_pos h]
        · rw [if_neg h, gp_c71, if_neg h, if_neg h]
      rcases e3 with hb | ⟨p2, s2, P, a1, a2, a3, a4, a5, a6, a7, a8⟩
      · obtain ⟨N2, d1, d2, d3, _⟩ := gp_folG hmd4 (M.1 0 23) (N.1 0 22) N
        have hb2 : gp_bad N2 t := by
          obtain ⟨z, sz, z1, z2, z3, z4, z5⟩ := hb
          exact ⟨z, sz, z1, z2, z3, z4, by rw [d3 0 (by omega)]; exact z5⟩
        rw [d1, gp_eB, all71]
        have hn0 : 0 < n := by
          have : p < t.length := by
            cases e : gp_hr t p with
            | none => rw [e] at hip; cases hip
            | some c => exact (gp_hr_lt g1 e).2.1
          omega
        obtain ⟨n', rfl⟩ : ∃ n', n = n' + 1 := ⟨n - 1, by omega⟩
        have hb3 : gp_bad (gz_w (gz_w (gz_w N2 0 22 (if M.1 0 21 = 0 then M.1 0 22 else M.1 0 22 ||| N2.1 0 22)) 0 23 (if N2.1 0 21 = 0 then N2.1 0 23 else M.1 0 23 ||| N2.1 0 23)) 0 21 (if M.1 0 21 = 0 then 0 else if N2.1 0 21 = 0 then 0 else 1)) t := ((hb2.w (by omega)).w (by omega)).w (by omega)
        obtain ⟨z, z1, z2⟩ := hb3.nf h80
        rw [f12_readChain_5, gp_nfine z2 z1, gp_eB2, if_pos rfl]
        exact ⟨_, rfl, (((e2.trans (gp_rF.of14 d2 d3)).trans (gp_rF.w0 _ (by omega))).trans (gp_rF.w0 _ (by omega))).trans (gp_rF.w0 _ (by omega)), Or.inl hb3⟩
      · obtain ⟨b1, b2, b3, b4, b5, b6, b7⟩ := a1
        have hL2 : s2.2.2.1 = (some q, wh) :: L := by rw [a3, eP1, hq]
        have hcc2 := b2.2.2.1 (by omega)
        have hqok : gp_okP s2.2.1 q := (hcc2.2.2.2.2.1 (some q, wh) (by rw [hL2]; exact List.mem_cons_self ..)).1 q rfl
        obtain ⟨k1, k2, k3, ch1, wh1, L1, m1, m2, m3, m4, m5⟩ := gp_eP_f b2 (by omega)
        rw [hL2] at m1
        cases m1
        rw [a4] at m2 m5
        have m5 : (gp_eP s2).2.1 = gp_lnk s2.2.1 q.2.1 P.1 := m5
        have hmdd : gp_md s2.2.1 = gp_md s.2.1 := by
          have h5 := b6.1
          rw [a6, hm5] at h5
          exact ((nI_eq (by omega) (by have := hcc2.1; omega)).mp h5).symm
        obtain ⟨N2, d1, d2, d3, d4⟩ := gp_folE (a := q.2.1) (f := P.1) b5 hcc2.1 hqok.2
        rw [hmdd] at d1
        have d0 : ∀ i, N2.1 0 i = N.1 0 i := fun i => by rw [d3 0 (by omega)]
        have q2 : M.1 0 23 = nI q.2.1 := hp.2.2
        have q1 : M.1 0 22 = nI q.1 := hp.2.1
        have P1 : N.1 0 22 = nI P.1 := a5.2.1
        rw [q2, P1, d1, gp_eB, ← q2, all71]
        obtain ⟨R, hR⟩ : ∃ R, R = gz_w (gz_w (gz_w N2 0 22 (if M.1 0 21 = 0 then M.1 0 22 else M.1 0 22 ||| N2.1 0 22)) 0 23 (if N2.1 0 21 = 0 then N2.1 0 23 else M.1 0 23 ||| N2.1 0 23)) 0 21 (if M.1 0 21 = 0 then 0 else if N2.1 0 21 = 0 then 0 else 1) := ⟨_, rfl⟩
        have rF : gp_rF N2 R := by rw [hR]; exact ((gp_rF.w0 _ (by omega)).trans (gp_rF.w0 _ (by omega))).trans (gp_rF.w0 _ (by omega))
        have rc : ∀ a, a ≠ 0 → R.1 a = N2.1 a := fun a ha => by rw [hR, gp_wc _ ha, gp_wc _ ha, gp_wc _ ha]
        have ro : ∀ i, i ≠ 21 → i ≠ 22 → i ≠ 23 → R.1 0 i = N.1 0 i := fun i h1 h2 h3 => by rw [hR, gp_gn (by omega), gp_gn (by omega), gp_gn (by omega), d0]
        have nz : ∀ b : Bool, (nI (if b = true then 1 else 0) = 0) ↔ b = false := fun b => by cases b <;> decide
        have pR : gp_pc R (gp_mgP q P) := by
          refine ⟨?_, ?_, ?_⟩
          · rw [hR, gp_gs, d0, hp.1, a5.1]
            show _ = nI (if (q.2.2 && P.2.2) = true then 1 else 0)
            cases q.2.2 <;> cases P.2.2 <;> decide
          · rw [hR, gp_gn (by omega), gp_gn (by omega), gp_gs, hp.1, d0, q1, P1]
            show _ = nI (q.1 ||| if q.2.2 = true then P.1 else 0)
            cases q.2.2 with
            | false => rw [if_pos ((nz false).mpr rfl), if_neg (by decide), Nat.or_zero]
            | true => rw [if_neg (fun h => by cases (nz true).mp h), if_pos rfl, gp_or]
          · rw [hR, gp_gn (by omega), gp_gs, d0, d0, a5.1, q2, a5.2.2]
            show _ = nI (P.2.1 ||| if P.2.2 = true then q.2.1 else 0)
            cases P.2.2 with
            | false => rw [if_pos ((nz false).mpr rfl), if_neg (by decide), Nat.or_zero]
            | true => rw [if_neg (fun h => by cases (nz true).mp h), if_pos rfl, gp_or, Nat.or_comm]
        have gR : gp_good R t p2 s2 (gp_eP s2).2.1 := by
          refine ⟨b1.frF ((gp_rF.of14 d2 d3).trans rF) (ro 8 (by omega) (by omega) (by omega)) (ro 9 (by omega) (by omega) (by omega)), b2, b3, b4, ?_, ?_, by rw [ro 24 (by omega) (by omega) (by omega)]; exact b7⟩
          · rw [m5]; exact d4.fr (fun a h1 h2 => rc a (by omega))
          · have : gp_tc R s2.2.1 := by
              unfold gp_tc
              rw [rc 5 (by omega), rc 6 (by omega), d3 5 (by omega), d3 6 (by omega)]
              exact b6
            exact gp_tc_sm this k1
        obtain ⟨M', c1, c2, c3⟩ := ih p2 s2 R (some q) (gp_mgP q P) (by omega) gR a2 hL2 (by rw [a4]; rfl) pR a6 a8
        rw [← hR]
        refine ⟨M', c1, ((e2.trans (gp_rF.of14 d2 d3)).trans rF).trans c2, c3.imp id ?_⟩
        rintro ⟨p', s', ch', q', r1, r2, r3, r4, r5, r6, r7, r8, r9⟩
        exact ⟨p', s', ch', q', r1, r2, r3, r4, r5, r6, by omega, r8, r9⟩
end
end
section
/-! rules told as a text: the reference reads a chain and a way -/
section
variable {t : List Nat}
theorem gp_rdChain {r k p : Nat} {s : gp_S} {M : gz_M} {W : Int32 → gz_M → Option gz_M} (hW : k ≤ 6 → gp_wayS t r k W) {wh : Option gp_P} {L : List (Option gp_P × Option gp_P)} (hk : L.length + 1 = k) (hg : gp_good M t p s s.2.1) (h2 : s.1 = 2) (hL : s.2.2.1 = (none, wh) :: L) (hr : s.2.1.1 = r) : ∃ M', f12_readChain W (nI r) M = some M' ∧ gp_rF M M' ∧ (gp_bad M' t ∨ ∃ p' s' ch' q', gp_good M' t p' s' (gp_eP s').2.1 ∧ s'.1 = 3 ∧ s'.2.2.1 = (ch', wh) :: L ∧ gp_mgO ch' s'.2.2.2 = some q' ∧ gp_pc M' q' ∧ s'.2.1.1 = r ∧ p < p' ∧ gp_noSuf t p' ∧ gp_isP (gp_hr t p') = false) := by
  have h80 := hg.1.1
  have hw := hg.2.1
  have hpn := (hw.2.2.2.2 (Or.inr h2)).1
  have eE : gp_eP s = (s.1, s.2.1, (none, wh) :: L, none) := by
    unfold gp_eP
    rw [hL, hpn]
    rfl
  obtain ⟨N, e1, e2, e3⟩ := gp_rdPart hW (s := s) (by rw [eE]; exact hg) (Or.inl h2) (fun h => by omega) hr (by rw [hL, List.length_cons]; exact hk)
  unfold f12_readChain
  rw [e1, gp_eB]
  rcases e3 with hb | ⟨p2, s2, P, a1, a2, a3, a4, a5, a6, a7, a8⟩
  · obtain ⟨z, z1, z2⟩ := hb.nf h80
    rw [show gz_FU = 999999 + 1 from rfl, f12_readChain_5, gp_nfine z2 z1, gp_eB2, if_pos rfl]
    exact ⟨N, rfl, e2, Or.inl hb⟩
  · have hL2 : s2.2.2.1 = (none, wh) :: L := by rw [a3, eE]
    have eE2 : (gp_eP s2).2.1 = s2.2.1 := by
      unfold gp_eP
      rw [hL2]
      rfl
    obtain ⟨M', c1, c2, c3⟩ := gp_chL hW hk gz_FU p2 s2 N none P (by unfold gz_FU; omega) (by rw [eE2]; exact a1) a2 hL2 (by rw [a4]; rfl) a5 a6 a8
    refine ⟨M', c1, e2.trans c2, c3.imp id ?_⟩
    rintro ⟨p', s', ch', q', r1, r2, r3, r4, r5, r6, r7, r8, r9⟩
    exact ⟨p', s', ch', q', r1, r2, r3, r4, r5, r6, by omega, r8, r9⟩
end
end
section
/-! rules told as a text: the reference reads a way -/
section
variable {t : List Nat}
theorem gp_w52 (W : Int32 → gz_M → Option gz_M) (c5 : Int32 → gz_M → Option gz_M) (x a b : Int32) {z : Int32} (hz : z = 0 ∨ z = 1) (M : gz_M) : f12_readWay1_52 W c5 x a b z M = c5 x (gz_w (gz_w (gz_w M 0 21 z) 0 22 (M.1 0 22 ||| a)) 0 23 (M.1 0 23 ||| b)) := by
  have h0 : gz_b01 z = true := by rcases hz with rfl | rfl <;> decide
  unfold f12_readWay1_52
  rw [h0, gp_eC, gp_eL, gp_gn (by omega), gp_eL, gp_gn (by omega), gp_gn (by omega), gp_eL]
theorem gp_wayL {r k : Nat} {W : Int32 → gz_M → Option gz_M} (hW : k ≤ 6 → gp_wayS t r k W) {L : List (Option gp_P × Option gp_P)} (hk : L.length + 1 = k) : ∀ (n p : Nat) (s : gp_S) (M : gz_M) (ch wh : Option gp_P) (w : gp_P), t.length < p + n → gp_good M t p s (gp_eP s).2.1 → s.1 = 3 → s.2.2.1 = (ch, wh) :: L → gp_unO wh (gp_mgO ch s.2.2.2) = some w → gp_pc M w → s.2.1.1 = r → gp_noSuf t p → gp_isP (gp_hr t p) = false → ∃ M', f12_readWay1_5 W n (nI r) M = some M' ∧ gp_rF M M' ∧ (gp_bad M' t ∨ ∃ p' s' w' ch' wh', gp_good M' t p' s' (gp_eP s').2.1 ∧ s'.1 = 3 ∧ s'.2.2.1 = (ch', wh') :: L ∧ gp_unO wh' (gp_mgO ch' s'.2.2.2) = some w' ∧ gp_pc M' w' ∧ s'.2.1.1 = r ∧ p ≤ p' ∧ gp_noSuf t p' ∧ gp_isP (gp_hr t p') = false ∧ ¬ gp_hr t p' = some 124) := by
  intro n
  induction n with
  | zero =>
    intro p s M ch wh w hn hg
    have := hg.1.2.1
    omega
  | succ n ih =>
    intro p s M ch wh w hn hg h3 hL hq hp hr hs hi
    have g1 := hg.1
    have h80 := g1.1
    have hw := hg.2.1
    obtain ⟨f1, _⟩ := gp_eP_f hw (by omega)
    rw [f12_readWay1_5, show (124 : Int32) = nI 124 from rfl, gp_passE g1 (by omega)]
    by_cases h124 : gp_hr t p = some 124
    · obtain ⟨_, hpl, htp⟩ := gp_hr_lt g1 h124
      obtain ⟨ch1, wh1, L1, eL1, eC⟩ := gp_eCh_f hw (by omega)
      rw [hL] at eL1
      cases eL1
      rw [hq] at eC
      have hst : gp_stp s (t.getD p 0) = some (2, (gp_eP s).2.1, (none, some w) :: L, none) := by
        rw [htp]
        unfold gp_stp
        rw [if_neg (by omega), if_neg (by omega), if_neg (by omega), if_pos h3, if_neg (by decide), if_neg (by decide), if_pos rfl, eC]
      have hc' : t.getD p 0 < 256 := by rw [htp]; decide
      have g2 : gp_good (gz_w M 0 8 (nI (p + 1))) t (p + 1) (2, (gp_eP s).2.1, (none, some w) :: L, none) (gp_eP s).2.1 := by
        refine ⟨g1.nx hpl, gp_stp_w hc' hw hst, gp_itr_s hg.2.2.1 hst, gp_good_u hw hc' hst hg.2.2.2.1, hg.2.2.2.2.1.fr (fun a h1 h2 => gp_wc _ (by omega)), hg.2.2.2.2.2.1.fr (fun a h1 h2 => gp_wc _ (by omega)), ?_⟩
        rw [gp_gn (by omega), hg.2.2.2.2.2.2, hL]
        rfl
      obtain ⟨N, e1, e2, e3⟩ := gp_rdChain hW hk (s := (2, (gp_eP s).2.1, (none, some w) :: L, none)) g2 rfl rfl (by show (gp_eP s).2.1.1 = r; rw [f1.1]; exact hr)
      rw [if_pos h124, gp_eB2, if_neg (show ¬ (1 : Int32) = 0 by decide), gp_eL, gp_eL, gp_eL, gp_gn (by omega), gp_gn (by omega), gp_gn (by omega), e1, gp_eB]
      obtain ⟨R, hR⟩ : ∃ R, R = gz_w (gz_w (gz_w N 0 21 (if M.1 0 21 = 0 then (if N.1 0 21 = 0 then 0 else 1) else 1)) 0 22 (N.1 0 22 ||| M.1 0 22)) 0 23 (N.1 0 23 ||| M.1 0 23) := ⟨_, rfl⟩
      have eR : (if M.1 0 21 = 0 then (if N.1 0 21 = 0 then f12_readWay1_52 W (f12_readWay1_5 W n) (nI r) (M.1 0 22) (M.1 0 23) 0 N else f12_readWay1_52 W (f12_readWay1_5 W n) (nI r) (M.1 0 22) (M.1 0 23) 1 N) else f12_readWay1_52 W (f12_readWay1_5 W n) (nI r) (M.1 0 22) (M.1 0 23) 1 N) = f12_readWay1_5 W n (nI r) R := by
        rw [hR, gp_w52 _ _ _ _ _ (Or.inl rfl), gp_w52 _ _ _ _ _ (Or.inr rfl)]
        split
        · split <;> rfl
        · rfl
      have rF : gp_rF N R := by rw [hR]; exact ((gp_rF.w0 _ (by omega)).trans (gp_rF.w0 _ (by omega))).trans (gp_rF.w0 _ (by omega))
      have rc : ∀ a, a ≠ 0 → R.1 a = N.1 a := fun a ha => by rw [hR, gp_wc _ ha, gp_wc _ ha, gp_wc _ ha]
      have ro : ∀ i, i ≠ 21 → i ≠ 22 → i ≠ 23 → R.1 0 i = N.1 0 i := fun i h1 h2 h3 => by rw [hR, gp_gn (by omega), gp_gn (by omega), gp_gn (by omega)]
      rw [eR]
      have hF : gp_rF M R := ((gp_rF.w0 _ (by omega)).trans e2).trans rF
      rcases e3 with hb | ⟨p2, s2, ch2, q, a1, a2, a3, a4, a5, a6, a7, a8, a9⟩
      · have hb3 : gp_bad R t := by rw [hR]; exact ((hb.w (by omega)).w (by omega)).w (by omega)
        obtain ⟨z, z1, z2⟩ := hb3.nf h80
        obtain ⟨n', rfl⟩ : ∃ n', n = n' + 1 := ⟨n - 1, by omega⟩
        rw [f12_readWay1_5, gp_passN z2 z1, gp_eB2, if_pos rfl]
        exact ⟨R, rfl, hF, Or.inl hb3⟩
      · obtain ⟨b1, b2, b3, b4, b5, b6, b7⟩ := a1
        have nz : ∀ b : Bool, (nI (if b = true then 1 else 0) = 0) ↔ b = false := fun b => by cases b <;> decide
        have pR : gp_pc R (gp_unP w q) := by
          refine ⟨?_, ?_, ?_⟩
          · rw [hR, gp_gn (by omega), gp_gn (by omega), gp_gs, hp.1, a5.1]
            show _ = nI (if (w.2.2 || q.2.2) = true then 1 else 0)
            cases w.2.2 <;> cases q.2.2 <;> decide
          · rw [hR, gp_gn (by omega), gp_gs, hp.2.1, a5.2.1, gp_or, Nat.or_comm]
            rfl
          · rw [hR, gp_gs, hp.2.2, a5.2.2, gp_or, Nat.or_comm]
            rfl
        have gR : gp_good R t p2 s2 (gp_eP s2).2.1 := ⟨b1.frF rF (ro 8 (by omega) (by omega) (by omega)) (ro 9 (by omega) (by omega) (by omega)), b2, b3, b4, b5.fr (fun a h1 h2 => rc a (by omega)), b6.fr (fun a h1 h2 => rc a (by omega)), by rw [ro 24 (by omega) (by omega) (by omega)]; exact b7⟩
        obtain ⟨M', c1, c2, c3⟩ := ih p2 s2 R ch2 (some w) (gp_unP w q) (by omega) gR a2 a3 (by rw [a4]; rfl) pR a6 a8 a9
        refine ⟨M', c1, hF.trans c2, c3.imp id ?_⟩
        rintro ⟨p', s', w', ch', wh', r1, r2, r3, r4, r5, r6, r7, r8⟩
        exact ⟨p', s', w', ch', wh', r1, r2, r3, r4, r5, r6, by omega, r8⟩
    · rw [if_neg h124, gp_eB2, if_pos rfl]
      exact ⟨M, rfl, gp_rF.refl M, Or.inr ⟨p, s, w, ch, wh, hg, h3, hL, hq, hp, hr, Nat.le_refl _, hs, hi, h124⟩⟩
end
end
section
/-! rules told as a text: the reference reads a way, at every depth -/
theorem gp_way {t : List Nat} {r : Nat} : ∀ (n k : Nat), k + n = 8 → 1 ≤ n → gp_wayS t r k (f12_readWay n)
  | 0, k, _, h => absurd h (by omega)
  | n + 1, k, hn, _ => by
    intro p s M L hg h2 hL hk hr
    have h80 := hg.1.1
    have hW : k + 1 ≤ 6 → gp_wayS t r (k + 1) (f12_readWay n) := fun h => gp_way n (k + 1) (by omega) (by omega)
    show ∃ M', f12_readWay1 (f12_readWay n) (nI r) M = some M' ∧ _
    unfold f12_readWay1
    obtain ⟨N, e1, e2, e3⟩ := gp_rdChain hW (by rw [hk]) hg h2 hL hr
    rw [e1, gp_eB]
    rcases e3 with hb | ⟨p2, s2, ch2, q, a1, a2, a3, a4, a5, a6, a7, a8, a9⟩
    · obtain ⟨z, z1, z2⟩ := hb.nf h80
      rw [show gz_FU = 999999 + 1 from rfl, f12_readWay1_5, gp_passN z2 z1, gp_eB2, if_pos rfl]
      exact ⟨N, rfl, e2, Or.inl hb⟩
    · obtain ⟨M', c1, c2, c3⟩ := gp_wayL hW (by rw [hk]) gz_FU p2 s2 N ch2 none q (by unfold gz_FU; omega) a1 a2 a3 (by rw [a4]; rfl) a5 a6 a8 a9
      refine ⟨M', c1, e2.trans c2, c3.imp id ?_⟩
      rintro ⟨p', s', w', ch', wh', r1, r2, r3, r4, r5, r6, r7, r8⟩
      exact ⟨p', s', w', ch', wh', r1, r2, r3, r4, r5, r6, by omega, r8⟩
end
section
/-! rules told as a text: the reference's fault is the component's; letters counted -/
section
variable {t : List Nat} {M : gz_M}
theorem gp_er_itr : ∀ (n d p : Nat) (s s' : gp_S), gp_itr t n p s = some s' → gp_er t (n + d) p s = gp_er t d (p + n) s'
  | 0, d, p, s, s', h => by
    cases h
    rw [Nat.zero_add, Nat.add_zero]
  | n + 1, d, p, s, s', h => by
    rw [gp_itr] at h
    cases e : gp_stp s (t.getD p 0) with
    | none => rw [e] at h; cases h
    | some s1 =>
      rw [e] at h
      rw [show n + 1 + d = (n + d) + 1 by omega, gp_er, e]
      show gp_er t (n + d) (p + 1) s1 = _
      rw [gp_er_itr n d (p + 1) s1 s' h, show p + 1 + n = p + (n + 1) by omega]
theorem gp_bad_flt (h : gp_bad M t) : ∃ q, q ≤ t.length ∧ gp_flt t = some q ∧ M.1 0 9 = nI q := by
  obtain ⟨q, s, h1, h2, h3, h4, h5⟩ := h
  refine ⟨q, h2, ?_, h5⟩
  unfold gp_flt
  obtain ⟨d, hd⟩ : ∃ d, t.length = q + d := ⟨t.length - q, by omega⟩
  have e := gp_er_itr q d 0 gp_s0 s h1
  rw [← hd, Nat.zero_add] at e
  rw [e]
  cases d with
  | zero =>
    rw [gp_er]
    exact if_neg (h4 (by omega))
  | succ d =>
    rw [gp_er, h3 (by omega)]
/-- a text that comes to its end has no fault -/
theorem gp_flt_no {s : gp_S} (h : gp_itr t t.length 0 gp_s0 = some s) (hm : gp_mEnd t s) : gp_flt t = none := by
  have e := gp_er_itr t.length 0 0 gp_s0 s h
  rw [Nat.add_zero, Nat.zero_add] at e
  unfold gp_flt
  rw [e, gp_er]
  exact if_pos hm
/-- the first mode with too many letters, in the reference -/
theorem gp_crowd {u : Nat → Nat} (h : ∀ m, m < 4 → M.1 12 m = nI (u m) ∧ u m ≤ 80) : f12_crowded M = some (gp_o (gp_over u), M) := by
  have st : ∀ (m n : Nat), m < 4 → f12_crowded_2 (n + 1) (nI m) M = if 10 < u m then some (nI m, M) else f12_crowded_2 n (nI (m + 1)) M := fun m n hm => by
    obtain ⟨a, b⟩ := h m hm
    rw [f12_crowded_2, if_neg (show ¬ (4 : Int32) ≤ nI m from nI_ge (b := 4) (by omega) (by omega)), gp_ckb hm (by omega), nI_clamp (by omega), a]
    by_cases h : 10 < u m
    · rw [if_neg (show ¬ nI (u m) ≤ (10 : Int32) from nI_ge (a := 10) (by omega) (by omega)), if_pos h]
    · rw [if_pos (show nI (u m) ≤ (10 : Int32) from nI_le (b := 10) (by omega) (by omega)), if_neg h, gp_eL, nI_1]
  unfold f12_crowded
  rw [show (0 : Int32) = nI 0 from rfl, show gz_FU = 999995 + 1 + 1 + 1 + 1 + 1 from rfl, st 0 _ (by omega), st 1 _ (by omega), st 2 _ (by omega), st 3 _ (by omega)]
  unfold gp_over
  split
  · rfl
  · split
    · rfl
    · split
      · rfl
      · split
        · rfl
        · rw [f12_crowded_2, if_pos (by decide)]
          rfl
end
end
section
/-! rules told as a text: the reference reads a rule -/
/-- inside a rule nothing of an act stands yet -/
def gp_na (s : gp_S) : Prop := 1 ≤ s.1 → s.1 ≤ 3 → s.2.1.2.2 3 s.2.1.1 = 0 ∧ s.2.1.2.1 s.2.1.1 = -1
theorem gp_na_T {d : Nat} {s : gp_S} {T : gp_T} {L : List (Option gp_P × Option gp_P)} {o : Option gp_P} (h : gp_na s) (h1 : 1 ≤ s.1) (h3 : s.1 ≤ 3) (e1 : T.1 = s.2.1.1) (e2 : T.2.1 = s.2.1.2.1) (e3 : T.2.2 3 s.2.1.1 = s.2.1.2.2 3 s.2.1.1) : gp_na (d, T, L, o) := fun _ _ => by
  show T.2.2 3 T.1 = 0 ∧ T.2.1 T.1 = -1
  rw [e1, e2, e3]
  exact h h1 h3
theorem gp_na_stp {s s' : gp_S} {c : Nat} (hw : gp_wS s) (h : gp_na s) (e : gp_stp s c = some s') : gp_na s' := by
  have h5 := hw.1.1
  have inP : gp_inP s c = some s' → s.1 = 2 ∨ s.1 = 3 → gp_na s' := by
    intro e h23
    obtain ⟨hsm, _⟩ := gp_eP_f hw (by omega)
    unfold gp_inP at e
    split at e
    · cases e
      refine gp_na_T h (by omega) (by omega) hsm.1 hsm.2.1 ?_
      rw [gp_aL_r _ _ 3 _ (by omega) (by omega) (by omega), hsm.2.2.1 3 (by omega)]
    · split at e
      · cases e
        exact gp_na_T h (by omega) (by omega) hsm.1 hsm.2.1 (by rw [hsm.2.2.1 3 (by omega)])
      · cases e
  have big : s'.1 = 0 ∨ 4 ≤ s'.1 → gp_na s' := fun h1 h2 h3 => by omega
  have nx : gp_nxt s = some s' → gp_na s' := fun e => by
    unfold gp_nxt at e
    split at e
    · cases e
      exact big (Or.inl rfl)
    · cases e
  have hcases : s.1 = 0 ∨ s.1 = 1 ∨ s.1 = 2 ∨ s.1 = 3 ∨ s.1 = 4 ∨ s.1 = 5 := by omega
  unfold gp_stp at e
  rcases hcases with h0 | h0 | h0 | h0 | h0 | h0
  · rw [if_pos h0] at e
    split at e
    · cases e
      refine fun _ _ => ⟨?_, ?_⟩
      · show gp_set _ 3 s.2.1.1 0 3 s.2.1.1 = 0
        unfold gp_set
        rw [if_pos ⟨rfl, rfl⟩]
      · show gp_setD s.2.1.2.1 s.2.1.1 (-1) s.2.1.1 = -1
        unfold gp_setD
        rw [if_pos rfl]
    · cases e
  · rw [if_neg (by omega), if_pos h0] at e
    split at e
    · cases e
      exact gp_na_T h (by omega) (by omega) rfl rfl rfl
    · cases e
  · rw [if_neg (by omega), if_neg (by omega), if_pos h0] at e
    exact inP e (Or.inl h0)
  · rw [if_neg (by omega), if_neg (by omega), if_neg (by omega), if_pos h0] at e
    obtain ⟨hsm, _⟩ := gp_eP_f hw (by omega)
    by_cases c1 : gp_isL c = true ∨ c = 40
    · rw [if_pos c1] at e
      exact inP e (Or.inr h0)
    · rw [if_neg c1] at e
      by_cases c2 : c = 42 ∨ c = 43 ∨ c = 63
      · rw [if_pos c2] at e
        have e := Option.some.inj e
        subst e
        unfold gp_suf
        split
        · exact h
        · have hmd := (hw.2.2.1 (by omega)).1
          have hs := gp_lnk_sm s.2.1
          refine gp_na_T h (by omega) (by omega) ?_ ?_ ?_ <;> split <;> first | rfl | exact (hs _ _ hmd).1 | exact (hs _ _ hmd).2.1 | rw [(hs _ _ hmd).2.2.1 3 (by omega)]
      · rw [if_neg c2] at e
        obtain ⟨ch, wh, L, eL, eC⟩ := gp_eCh_f hw (by omega)
        by_cases c3 : c = 124
        · rw [if_pos c3] at e
          have e := Option.some.inj e
          subst e
          rw [eC]
          exact gp_na_T h (by omega) (by omega) hsm.1 hsm.2.1 (by rw [hsm.2.2.1 3 (by omega)])
        · rw [if_neg c3] at e
          by_cases c4 : c = 41
          · rw [if_pos c4] at e
            by_cases c5 : s.2.2.1.length ≤ 1
            · rw [if_pos c5] at e
              cases e
            · rw [if_neg c5] at e
              have e := Option.some.inj e
              subst e
              unfold gp_cls
              rw [eC]
              exact gp_na_T h (by omega) (by omega) hsm.1 hsm.2.1 (by rw [hsm.2.2.1 3 (by omega)])
          · rw [if_neg c4] at e
            by_cases c5 : s.2.2.1.length ≤ 1
            · rw [if_pos c5] at e
              by_cases d1 : c = 60
              · rw [if_pos d1] at e
                have e := Option.some.inj e
                subst e
                exact big (Or.inr (by show 4 ≤ (5 : Nat); omega))
              · rw [if_neg d1] at e
                by_cases d2 : c = 62
                · rw [if_pos d2] at e
                  have e := Option.some.inj e
                  subst e
                  exact big (Or.inr (by show 4 ≤ (4 : Nat); omega))
                · rw [if_neg d2] at e
                  by_cases d3 : c = 61
                  · rw [if_pos d3] at e
                    have e := Option.some.inj e
                    subst e
                    exact big (Or.inr (by show 4 ≤ (4 : Nat); omega))
                  · rw [if_neg d3] at e
                    by_cases d4 : c = 59
                    · rw [if_pos d4] at e
                      exact nx e
                    · rw [if_neg d4] at e
                      cases e
            · rw [if_neg c5] at e
              cases e
  · rw [if_neg (by omega), if_neg (by omega), if_neg (by omega), if_neg (by omega), if_pos h0] at e
    split at e
    · have e := Option.some.inj e
      subst e
      exact big (Or.inr (by show 4 ≤ (5 : Nat); omega))
    · cases e
  · rw [if_neg (by omega), if_neg (by omega), if_neg (by omega), if_neg (by omega), if_neg (by omega)] at e
    by_cases d4 : c = 59
    · rw [if_pos d4] at e
      exact nx e
    · rw [if_neg d4] at e
      cases e
theorem gp_na_itr {t : List Nat} (ht : ∀ i, i < t.length → t.getD i 0 < 256) : ∀ (n p : Nat) (s s' : gp_S), p + n ≤ t.length → gp_wS s → gp_na s → gp_itr t n p s = some s' → gp_na s'
  | 0, p, s, s', _, _, h, e => by cases e; exact h
  | n + 1, p, s, s', hp, hw, h, e => by
    rw [gp_itr] at e
    cases e1 : gp_stp s (t.getD p 0) with
    | none => rw [e1] at e; cases e
    | some s1 =>
      rw [e1] at e
      exact gp_na_itr ht n (p + 1) s1 s' (by omega) (gp_stp_w (ht p (by omega)) hw e1) (gp_na_stp hw h e1) e
section
variable {M M' : gz_M} {t : List Nat} {p c : Nat} {s : gp_S}
theorem gp_na_at (ha : gp_at M t p) (h : gp_itr t p 0 gp_s0 = some s) : gp_na s := gp_na_itr (fun i hi => (ha.2.2.2.2.2 i hi).2) p 0 gp_s0 s (by have := ha.2.1; omega) gp_w0 (fun h1 _ => by have h1 : 1 ≤ (0 : Nat) := h1; omega) h
/-- one of some signs -/
theorem gp_oneE (h : gp_at M t p) {a b : Nat} (ha : a < 200) (hb : b < 50) : f12_oneOf (nI a) (nI (b + 1)) M = match gp_hr t p with | none => some (0, gz_w M 0 9 (nI p)) | some c => if a ≤ c ∧ c ≤ a + b then some (nI (c - a), gz_w M 0 8 (nI (p + 1))) else some (0, gz_w M 0 9 (nI p)) := by
  have h80 := h.1
  have bad : gz_bd (f12_fault (M.1 0 8) M) (fun M12 => some ((0 : Int32), M12)) = some (0, gz_w M 0 9 (nI p)) := by rw [gp_faultE h, gp_eB]
  unfold f12_oneOf
  rw [gp_fineE h, gp_eB2, if_neg (by decide), gp_hereE h, gp_eB2, nI_add, show a + (b + 1) = (a + b) + 1 by omega, nI_pred, gp_inE h (by omega) (by omega), gp_eB2]
  cases e : gp_hr t p with
  | none =>
    rw [if_pos rfl, bad]
  | some c =>
    dsimp only
    obtain ⟨hc, hp, ht⟩ := gp_hr_lt h e
    by_cases hab : a ≤ c ∧ c ≤ a + b
    · rw [if_neg (show ¬ (if a ≤ c ∧ c ≤ a + b then (1 : Int32) else 0) = 0 from by rw [if_pos hab]; decide), if_pos hab, h.2.2.2.1, nI_1, gp_eL, gp_gs, nI_pred, gp_ckb (show p < 80 by omega) (by omega), nI_clamp (by omega), gp_gn (by omega), (h.2.2.2.2.2 p hp).1, ht, gp_subI hab.1]
    · rw [if_pos (show (if a ≤ c ∧ c ≤ a + b then (1 : Int32) else 0) = 0 from if_neg hab), if_neg hab, bad]
theorem gp_oneN {q : Nat} (h : M.1 0 9 = nI q) (hq : q < 2 ^ 31) (a b : Int32) : f12_oneOf a b M = some (0, M) := by
  unfold f12_oneOf
  rw [gp_nfine h hq, gp_eB2, if_pos rfl]
end
end
