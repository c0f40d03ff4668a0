/-! rules told as a text: marks in the component -/
section
variable {k : Nat} {M M' : gz_M} {s : gp_S}
theorem gp_bR_part {T' : gp_T} {d : Nat} {pt : Option gp_P} (h : gp_bR k M s) (hT : gp_sm1 s.2.1 T') (e4 : ∀ i, M'.1 4 i = if i = 3 then gp_eO pt else M.1 4 i) (e5 : M'.1 5 = M.1 5) (e6 : M'.1 6 = M.1 6) (ek : ∀ c, k + 1 ≤ c → c ≤ k + 4 → M'.1 c = M.1 c) : gp_bR k M' (d, T', s.2.2.1, pt) := by
  obtain ⟨h1, h2, h3, h4, h5, h6, h7, h8, h9⟩ := h
  have hmd := hT.md
  refine ⟨?_, ?_, ?_, ?_, h5.fr fun i hi => ⟨by rw [e5], by rw [e6]⟩, ?_, ?_, ?_, ?_⟩
  · rw [e4, if_neg (by omega)]; exact h1
  · rw [e4, if_pos rfl]
  · rw [e4, if_neg (by omega), h3]; show nI s.2.1.1 = nI T'.1; rw [hT.1]
  · rw [e4, if_neg (by omega), h4]; show _ = nI (gp_md T'); rw [hmd]
  · rw [ek _ (by omega) (by omega)]; show M.1 (k + 1) T'.1 = nI (T'.2.2 1 T'.1); rw [hT.1, hT.2.2.1 1 (by omega)]; exact h6
  · rw [ek _ (by omega) (by omega)]; show M.1 (k + 2) T'.1 = nI (T'.2.2 2 T'.1); rw [hT.1, hT.2.2.1 2 (by omega)]; exact h7
  · rw [ek _ (by omega) (by omega)]; show M.1 (k + 3) T'.1 = nI (T'.2.2 3 T'.1); rw [hT.1, hT.2.2.1 3 (by omega)]; exact h8
  · rw [ek _ (by omega) (by omega)]; show M.1 (k + 4) T'.1 = T'.2.1 T'.1; rw [hT.1, hT.2.1]; exact h9
theorem gp_sufC (hk : 6 < k) (hw : gp_wS s) (h3 : s.1 = 3) {c : Nat} (hc : c = 42 ∨ c = 43 ∨ c = 63) (h : gp_bC k M s) : ∃ M', f1_take k (nI c) M = some M' ∧ gp_bL k M M' ∧ gp_bC k M' (gp_suf s c) := by
  have hcc := hw.2.2.1 (by omega)
  obtain ⟨hT, hR⟩ := h
  have hR := hR (by omega)
  have b2 := hR.2.1
  cases ep : s.2.2.2 with
  | none => exact absurd ep (hw.2.2.2.1 (by omega))
  | some p =>
    have hp : gp_sP p := gp_okO_s hcc.2.2.2.2.2 ep
    have b2 : M.1 4 3 = nI (gp_pN p) := by rw [b2, ep]; rfl
    have hs : gp_suf s c = (3, (if c = 63 then s.2.1 else gp_lnk s.2.1 p.2.1 p.1), s.2.2.1, some (p.1, p.2.1, (if c = 43 then p.2.2 else true))) := by
      unfold gp_suf
      rw [ep]
    rw [hs]
    obtain ⟨M1, l1, l2, l3, l4⟩ := gp_linkC (f := p.1) hk hcc.1 hR.2.2.2.1 hp.2 hT
    have l31 : M1.1 4 3 = nI (gp_pN p) := by rw [l3 4 (by omega)]; exact b2
    have hsm := gp_lnk_sm s.2.1 p.2.1 p.1 hcc.1
    have lL : gp_bL k M M1 := ⟨l2, fun c _ _ _ h => l3 c (by omega)⟩
    rcases hc with rfl | rfl | rfl
    · rw [if_neg (by decide), if_neg (by decide)]
      refine ⟨gz_w M1 4 3 (nI (gp_pN (p.1, p.2.1, true))), ?_, lL.trans (gp_bL.w _ (by omega)), ?_, fun _ => ?_⟩
      · unfold f1_take
        rw [if_neg (by decide), if_neg (by decide), if_pos (by rfl), b2, gp_lOf hp, gp_eB2, b2, gp_fOf hp, gp_eB2, l1, gp_eB, l31, show (1048576 : Int32) = nI 1048576 from rfl, gp_or, gp_pN_4 hp]
        rfl
      · exact l4.fr5 (fun c h1 h2 => by rw [gp_wc _ (by omega)])
      · refine gp_bR_part hR hsm (fun i => ?_) (by rw [gp_wc _ (by omega), l3 5 (by omega)]) (by rw [gp_wc _ (by omega), l3 6 (by omega)]) (fun c h1 h2 => by rw [gp_wc _ (by omega), l3 c (by omega)])
        by_cases hi : i = 3
        · rw [hi, gp_gs, if_pos rfl]; rfl
        · rw [gp_gn (by omega), if_neg hi, l3 4 (by omega)]
    · rw [if_neg (by decide), if_pos (by rfl)]
      refine ⟨M1, ?_, lL, l4, fun _ => ?_⟩
      · unfold f1_take
        rw [if_neg (by decide), if_neg (by decide), if_neg (by decide), if_pos (by rfl), b2, gp_lOf hp, gp_eB2, b2, gp_fOf hp, gp_eB2, l1, gp_eB]
      · refine gp_bR_part hR hsm (fun i => ?_) (by rw [l3 5 (by omega)]) (by rw [l3 6 (by omega)]) (fun c h1 h2 => by rw [l3 c (by omega)])
        by_cases hi : i = 3
        · rw [hi, if_pos rfl, l31]; rfl
        · rw [if_neg hi, l3 4 (by omega)]
    · rw [if_pos (by rfl), if_neg (by decide)]
      refine ⟨gz_w M 4 3 (nI (gp_pN (p.1, p.2.1, true))), ?_, gp_bL.w _ (by omega), ?_, fun _ => ?_⟩
      · unfold f1_take
        rw [if_neg (by decide), if_neg (by decide), if_neg (by decide), if_neg (by decide), if_pos (by rfl), b2, show (1048576 : Int32) = nI 1048576 from rfl, gp_or, gp_pN_4 hp]
        rfl
      · exact hT.fr5 (fun c h1 h2 => by rw [gp_wc _ (by omega)])
      · refine gp_bR_part hR (gp_sm1.refl _) (fun i => ?_) (by rw [gp_wc _ (by omega)]) (by rw [gp_wc _ (by omega)]) (fun c h1 h2 => by rw [gp_wc _ (by omega)])
        by_cases hi : i = 3
        · rw [hi, gp_gs, if_pos rfl]; rfl
        · rw [gp_gn (by omega), if_neg hi]
theorem gp_brkC (hk : 6 < k) (hw : gp_wS s) (h1 : 1 ≤ s.1) (hl : s.2.2.1.length ≤ 6) (h : gp_bC k M s) : ∃ M', f1_take k (nI 40) M = some M' ∧ gp_bL k M M' ∧ gp_bC k M' (gp_brk s) := by
  obtain ⟨f1, f2, f3, ch, wh, L, eL, eP1, eP2, eP3, eP4⟩ := gp_eP_f hw h1
  obtain ⟨M1, e1, e2, e3, e4⟩ := gp_epC hk hw h1 h
  have hR := e4 (by rw [eP3]; omega)
  obtain ⟨b1, b2, b3, b4, b5, b6, b7, b8, b9⟩ := hR
  have hlen := gp_eP_len s
  have hlp : 0 < s.2.2.1.length := by rw [eL]; simp
  unfold gp_brk
  generalize hLL : (gp_eP s).2.2.1 = LL at *
  rw [eP2] at b2
  obtain ⟨n, hn⟩ : ∃ n, LL.length = n + 1 := ⟨LL.length - 1, by omega⟩
  have b1 : M1.1 4 2 = nI n := by rw [b1, hn]; rfl
  refine ⟨gz_w (gz_w (gz_w M1 4 2 (nI (n + 1))) 5 (n + 1) (-1)) 6 (n + 1) (-1), ?_, ((e2.trans (gp_bL.w _ (by omega))).trans (gp_bL.w _ (by omega))).trans (gp_bL.w _ (by omega)), ?_, fun _ => ⟨?_, ?_, ?_, ?_, ⟨?_, ?_, b5.fr fun i hi => ⟨?_, ?_⟩⟩, ?_, ?_, ?_, ?_⟩⟩
  · unfold f1_take
    rw [if_pos (by rfl), e1, gp_eB]
    unfold f1_openBracket
    rw [b1, if_neg (show ¬ (6 : Int32) ≤ nI n from nI_ge (b := 6) (by omega) (by omega)), nI_1, gp_eL, gp_gs, gp_ckb (show n + 1 < 7 by omega) (by omega), nI_clamp (by omega), gp_eL, gp_gn (by omega), gp_gs, gp_ckb (show n + 1 < 7 by omega) (by omega), nI_clamp (by omega)]
    rfl
  · exact e3.fr5 (fun c h1 h2 => by rw [gp_wc _ (by omega), gp_wc _ (by omega), gp_wc _ (by omega)])
  · rw [gp_gn (by omega), gp_gn (by omega), gp_gs]
    show _ = nI (((none, none) :: LL).length - 1)
    rw [List.length_cons, hn]
    rfl
  · rw [gp_gn (by omega), gp_gn (by omega), gp_gn (by omega), b2]
  · rw [gp_gn (by omega), gp_gn (by omega), gp_gn (by omega)]; exact b3
  · rw [gp_gn (by omega), gp_gn (by omega), gp_gn (by omega)]; exact b4
  · rw [hn, gp_gn (by omega), gp_gs]; rfl
  · rw [hn, gp_gs]; rfl
  · rw [gp_gn (by omega), gp_gn (by omega), gp_gn (by omega)]
  · rw [gp_gn (by omega), gp_gn (by omega), gp_gn (by omega)]
  · rw [gp_gn (by omega), gp_gn (by omega), gp_gn (by omega)]; exact b6
  · rw [gp_gn (by omega), gp_gn (by omega), gp_gn (by omega)]; exact b7
  · rw [gp_gn (by omega), gp_gn (by omega), gp_gn (by omega)]; exact b8
  · rw [gp_gn (by omega), gp_gn (by omega), gp_gn (by omega)]; exact b9
theorem gp_clsC (hk : 6 < k) (hw : gp_wS s) (h3 : s.1 = 3) (hl : ¬ s.2.2.1.length ≤ 1) (h : gp_bC k M s) : ∃ M', f1_take k (nI 41) M = some M' ∧ gp_bL k M M' ∧ gp_bC k M' (gp_cls s) := by
  obtain ⟨ch, wh, L, eL, eC⟩ := gp_eCh_f hw (by omega)
  obtain ⟨M1, e1, e2, e3, e4⟩ := gp_ecC hk hw (by omega) h
  have hlen := hw.1.2.1
  unfold gp_cls
  rw [eC] at e3 e4 ⊢
  obtain ⟨b1, b2, b3, b4, ⟨b51, b52, b53⟩, b6, b7, b8, b9⟩ := e4 (by show 1 ≤ s.1; omega)
  rw [eL] at hl hlen
  obtain ⟨n, hn⟩ : ∃ n, L.length = n + 1 := ⟨L.length - 1, by rw [List.length_cons] at hl; omega⟩
  rw [List.length_cons, hn] at hlen
  have q1 : M1.1 4 2 = nI (n + 1) := by rw [b1]; show nI L.length = _; rw [hn]
  dsimp only at b52 ⊢
  rw [hn] at b52
  generalize gp_unO wh (gp_mgO ch s.2.2.2) = w at *
  refine ⟨gz_w (gz_w M1 4 3 (gp_eO w)) 4 2 (nI n), ?_, (e2.trans (gp_bL.w _ (by omega))).trans (gp_bL.w _ (by omega)), ?_, fun _ => ⟨?_, ?_, ?_, ?_, b53.fr fun i hi => ⟨?_, ?_⟩, ?_, ?_, ?_, ?_⟩⟩
  · unfold f1_take
    rw [if_neg (by decide), if_pos (by rfl), e1, gp_eB]
    unfold f1_closeBracket
    rw [q1, gp_ckb (show n + 1 < 7 by omega) (by omega), nI_clamp (by omega), b52, gp_eL, gp_gn (by omega), q1, if_neg (nI_nle (by omega) (by omega)), nI_pred]
    rfl
  · exact e3.fr5 (fun c h1 h2 => by rw [gp_wc _ (by omega), gp_wc _ (by omega)])
  · rw [gp_gs]
    show _ = nI (L.length - 1)
    rw [hn]
    rfl
  · rw [gp_gn (by omega), gp_gs]
  · rw [gp_gn (by omega), gp_gn (by omega)]; exact b3
  · rw [gp_gn (by omega), gp_gn (by omega)]; exact b4
  · rw [gp_gn (by omega), gp_gn (by omega)]
  · rw [gp_gn (by omega), gp_gn (by omega)]
  · rw [gp_gn (by omega), gp_gn (by omega)]; exact b6
  · rw [gp_gn (by omega), gp_gn (by omega)]; exact b7
  · rw [gp_gn (by omega), gp_gn (by omega)]; exact b8
  · rw [gp_gn (by omega), gp_gn (by omega)]; exact b9
end
