/-! rules told as a text: a part, a chain, a rule ends in the component -/
section
variable {k : Nat} {M M' : gz_M} {s : gp_S}
theorem gp_eO_no {o : Option gp_P} (h : ∀ p, o = some p → gp_sP p) : (gp_eO o = -1) ↔ o = none := by
  cases o with
  | none => exact ⟨fun _ => rfl, fun _ => rfl⟩
  | some p =>
    have := gp_pN_lt (h p rfl)
    refine ⟨fun e => ?_, fun e => by cases e⟩
    have e : nI (gp_pN p) = gp_no := e
    rw [gp_ne1 (by omega)] at e
    cases e
theorem gp_bR_put {ch wh ch' : Option gp_P} {L : List (Option gp_P × Option gp_P)} {T' : gp_T} (h : gp_bR k M s) (eL : s.2.2.1 = (ch, wh) :: L) (hT : gp_sm1 s.2.1 T') (e4 : ∀ i, M'.1 4 i = if i = 3 then -1 else M.1 4 i) (e5 : ∀ i, M'.1 5 i = if i = L.length then gp_eO ch' else M.1 5 i) (e6 : M'.1 6 = M.1 6) (ek : ∀ c, k + 1 ≤ c → c ≤ k + 4 → M'.1 c = M.1 c) : gp_bR k M' (s.1, T', (ch', wh) :: L, none) := by
  obtain ⟨h1, h2, h3, h4, h5, h6, h7, h8, h9⟩ := h
  rw [eL] at h1 h5
  have hmd := hT.md
  refine ⟨?_, ?_, ?_, ?_, ⟨?_, ?_, h5.2.2.fr fun i hi => ⟨?_, ?_⟩⟩, ?_, ?_, ?_, ?_⟩
  · rw [e4, if_neg (by omega)]; exact h1
  · rw [e4, if_pos rfl]; rfl
  · rw [e4, if_neg (by omega), h3]; show nI s.2.1.1 = nI T'.1; rw [hT.1]
  · rw [e4, if_neg (by omega), h4]; show _ = nI (gp_md T'); rw [hmd]
  · rw [e5, if_pos rfl]
  · rw [e6]; exact h5.2.1
  · rw [e5, if_neg (by omega)]
  · rw [e6]
  · rw [ek _ (by omega) (by omega)]; show M.1 (k + 1) T'.1 = nI (T'.2.2 1 T'.1); rw [hT.1, hT.2.2.1 1 (by omega)]; exact h6
  · rw [ek _ (by omega) (by omega)]; show M.1 (k + 2) T'.1 = nI (T'.2.2 2 T'.1); rw [hT.1, hT.2.2.1 2 (by omega)]; exact h7
  · rw [ek _ (by omega) (by omega)]; show M.1 (k + 3) T'.1 = nI (T'.2.2 3 T'.1); rw [hT.1, hT.2.2.1 3 (by omega)]; exact h8
  · rw [ek _ (by omega) (by omega)]; show M.1 (k + 4) T'.1 = T'.2.1 T'.1; rw [hT.1, hT.2.1]; exact h9
theorem gp_epC (hk : 6 < k) (hw : gp_wS s) (h1 : 1 ≤ s.1) (h : gp_bC k M s) : ∃ M', f1_endPart k M = some M' ∧ gp_bL k M M' ∧ gp_bC k M' (gp_eP s) := by
  obtain ⟨f1, f2, f3, ch, wh, L, eL, eP1, eP2, eP3, eP4⟩ := gp_eP_f hw h1
  have hcc := hw.2.2.1 h1
  have hlen := hw.1.2.1
  rw [eL] at hlen
  have hlen : L.length + 1 ≤ 7 := hlen
  obtain ⟨hT, hR⟩ := h
  have hR := hR h1
  have hR0 := hR
  obtain ⟨b1, b2, b3, b4, b5, b6, b7, b8, b9⟩ := hR
  rw [eL] at b1 b5
  have b1 : M.1 4 2 = nI L.length := b1
  have b51 : M.1 5 L.length = gp_eO ch := b5.1
  have heP : gp_eP s = (s.1, gp_lnO s.2.1 ch s.2.2.2, (gp_mgO ch s.2.2.2, wh) :: L, none) := by
    rw [← eP1, ← eP2, ← eP3, ← eP4]
  have hch := (hcc.2.2.2.2.1 (ch, wh) (by rw [eL]; exact List.mem_cons_self ..)).1
  have hpt := hcc.2.2.2.2.2
  rw [heP]
  unfold f1_endPart
  rw [b1, gp_ckb (show L.length < 7 by omega) (by omega), nI_clamp (by omega), b51, gp_eL]
  cases ech : ch with
  | none =>
    rw [if_pos (by rfl), gp_ckb (show L.length < 7 by omega) (by omega), gp_eL, gp_eL]
    refine ⟨_, rfl, (gp_bL.w _ (by omega)).trans (gp_bL.w _ (by omega)), ?_, fun _ => ?_⟩
    · exact hT.fr5 (fun c h1 h2 => by rw [gp_wc _ (by omega), gp_wc _ (by omega)])
    · refine gp_bR_put hR0 eL (gp_sm1.refl _) (fun i => ?_) (fun i => ?_) (by rw [gp_wc _ (by omega), gp_wc _ (by omega)]) (fun c h1 h2 => by rw [gp_wc _ (by omega), gp_wc _ (by omega)])
      · by_cases hi : i = 3
        · rw [hi, gp_gs, if_pos rfl]
        · rw [gp_gn (by omega), gp_gn (by omega), if_neg hi]
      · rw [gp_gn (by omega)]
        by_cases hi : i = L.length
        · rw [hi, gp_gs, if_pos rfl, b2]; rfl
        · rw [gp_gn (by omega), if_neg hi]
  | some c =>
    have hc : gp_sP c := gp_okO_s hch ech
    have hcn := gp_pN_lt hc
    rw [show gp_eO (some c) = nI (gp_pN c) from rfl, if_neg (show ¬ nI (gp_pN c) = (-1 : Int32) from by rw [gp_m1, gp_ne1 (by omega)]; exact id)]
    cases ept : s.2.2.2 with
    | none =>
      rw [if_pos (by rw [b2, ept]; rfl), gp_eL]
      refine ⟨_, rfl, gp_bL.w _ (by omega), ?_, fun _ => ?_⟩
      · exact hT.fr5 (fun c h1 h2 => by rw [gp_wc _ (by omega)])
      · refine gp_bR_put hR0 eL (gp_sm1.refl _) (fun i => ?_) (fun i => ?_) (by rw [gp_wc _ (by omega)]) (fun c h1 h2 => by rw [gp_wc _ (by omega)])
        · by_cases hi : i = 3
          · rw [hi, gp_gs, if_pos rfl]
          · rw [gp_gn (by omega), if_neg hi]
        · rw [gp_gn (by omega)]
          by_cases hi : i = L.length
          · rw [hi, if_pos rfl, b51, ech]; rfl
          · rw [if_neg hi]
    | some p =>
      have hp : gp_sP p := gp_okO_s hpt ept
      have hpn := gp_pN_lt hp
      have b2' : M.1 4 3 = nI (gp_pN p) := by rw [b2, ept]; rfl
      rw [b2', if_neg (show ¬ nI (gp_pN p) = (-1 : Int32) from by rw [gp_m1, gp_ne1 (by omega)]; exact id)]
      rw [gp_lOf hc, gp_eB2, b2', gp_fOf hp, gp_eB2]
      obtain ⟨M1, l1, l2, l3, l4⟩ := gp_linkC (f := p.1) hk hcc.1 b4 hc.2 hT
      have l31 : M1.1 4 3 = nI (gp_pN p) := by rw [l3 4 (by omega)]; exact b2'
      have l32 : M1.1 4 2 = nI L.length := by rw [l3 4 (by omega)]; exact b1
      rw [l1, gp_eB, gp_fOf hc, gp_eB2, gp_mOf hc, gp_eB2]
      -- what is left behind
      have fin : ∀ v, v = nI (gp_pN (gp_mgP c p)) → gp_bL k M (gz_w (gz_w M1 5 L.length v) 4 3 (-1)) ∧ gp_bC k (gz_w (gz_w M1 5 L.length v) 4 3 (-1)) (s.1, gp_lnk s.2.1 c.2.1 p.1, (some (gp_mgP c p), wh) :: L, none) := by
        intro v hv
        refine ⟨(gp_bL.trans ⟨l2, fun c _ _ _ h => l3 c (by omega)⟩ (gp_bL.w _ (by omega))).trans (gp_bL.w _ (by omega)), ?_, fun _ => ?_⟩
        · exact l4.fr5 (fun c h1 h2 => by rw [gp_wc _ (by omega), gp_wc _ (by omega)])
        · refine gp_bR_put hR0 eL (gp_lnk_sm _ _ _ hcc.1) (fun i => ?_) (fun i => ?_) (by rw [gp_wc _ (by omega), gp_wc _ (by omega), l3 6 (by omega)]) (fun c h1 h2 => by rw [gp_wc _ (by omega), gp_wc _ (by omega), l3 c (by omega)])
          · by_cases hi : i = 3
            · rw [hi, gp_gs, if_pos rfl]
            · rw [gp_gn (by omega), gp_gn (by omega), if_neg hi, l3 4 (by omega)]
          · rw [gp_gn (by omega)]
            by_cases hi : i = L.length
            · rw [hi, gp_gs, if_pos rfl, hv]; rfl
            · rw [gp_gn (by omega), if_neg hi, l3 5 (by omega)]
      -- the rest is a number
      have t104 : ∀ (a b : Nat), (a < 1024 ∧ b < 1024 ∧ p.2.1 < 1024) → f1_endPart_104 k (nI (gp_pN c)) (nI a) (nI b) (nI p.2.1) M1 = some (gz_w (gz_w M1 5 L.length (nI ((a ||| (p.2.1 ||| b) <<< 10) ||| ((gp_pN c &&& gp_pN p) &&& 1048576)))) 4 3 (-1)) := fun a b hab => by
        have : p.2.1 ||| b < 2 ^ 10 := Nat.or_lt_two_pow hab.2.2 hab.2.1
        unfold f1_endPart_104
        rw [gp_eL, l32, gp_ckb (show L.length < 7 by omega) (by omega), nI_clamp (by omega), l31, gp_or, gp_shl10 _ (by omega), gp_or, gp_and, show (1048576 : Int32) = nI 1048576 from rfl, gp_and, gp_or]
        rfl
      have t77 : ∀ a b : Nat, a ||| b < 2 ^ 10 → f1_endPart_77 k (nI (gp_pN c)) (nI b) (nI a) M1 = some (gz_w (gz_w M1 5 L.length (nI (((a ||| b) ||| (p.2.1 ||| (if p.2.2 = true then c.2.1 else 0)) <<< 10) ||| ((gp_pN c &&& gp_pN p) &&& 1048576)))) 4 3 (-1)) := fun a b hab => by
        have h1 := hc.2
        have h2 := hp.2
        unfold f1_endPart_77
        rw [gp_eL, gp_or, l31, gp_lOf hp, gp_eB2, l31, gp_mOf hp, gp_eB2]
        cases p.2.2 with
        | false =>
          rw [if_pos (by rfl)]
          exact t104 (a ||| b) 0 ⟨by omega, by omega, by omega⟩
        | true =>
          rw [if_neg (by decide), gp_lOf hc, gp_eB2]
          exact t104 (a ||| b) c.2.1 ⟨by omega, by omega, by omega⟩
      have hmg := gp_mgN hc hp
      have hms := (gp_mg_s hc hp).1
      cases he : c.2.2 with
      | false =>
        rw [if_pos (by rfl)]
        have e : (gp_mgP c p).1 = c.1 ||| 0 := by unfold gp_mgP; rw [he]; rfl
        rw [e] at hmg hms
        obtain ⟨g1, g2⟩ := fin _ (congrArg nI hmg)
        exact ⟨_, t77 c.1 0 hms, g1, g2⟩
      | true =>
        rw [if_neg (by decide), l31, gp_fOf hp, gp_eB2]
        have e : (gp_mgP c p).1 = c.1 ||| p.1 := by unfold gp_mgP; rw [he]; rfl
        rw [e] at hmg hms
        obtain ⟨g1, g2⟩ := fin _ (congrArg nI hmg)
        exact ⟨_, t77 c.1 p.1 hms, g1, g2⟩
end
