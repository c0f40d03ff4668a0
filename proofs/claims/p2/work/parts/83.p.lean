/-! rules told as a text: a chain, a rule ends in the component -/
section
variable {k : Nat} {M M' : gz_M} {s : gp_S}
theorem gp_ecC (hk : 6 < k) (hw : gp_wS s) (h3 : 3 ≤ s.1) (h : gp_bC k M s) : ∃ M', f1_endChain k M = some M' ∧ gp_bL k M M' ∧ gp_bC k M' (gp_eCh s) := by
  obtain ⟨f1, f2, f3, ch, wh, L, eL, eP1, eP2, eP3, eP4⟩ := gp_eP_f hw (by omega)
  obtain ⟨ch', wh', L', eL', eC⟩ := gp_eCh_f hw (by omega)
  rw [eL] at eL'
  cases eL'
  have hlen := hw.1.2.1
  rw [eL] at hlen
  have hlen : L.length + 1 ≤ 7 := hlen
  obtain ⟨M1, e1, e2, e3, e4⟩ := gp_epC hk hw (by omega) h
  have hR := e4 (by rw [eP3]; omega)
  obtain ⟨b1, b2, b3, b4, b5, b6, b7, b8, b9⟩ := hR
  have hpo := f3 (gp_mgO ch s.2.2.2, wh) (by rw [eP1]; exact List.mem_cons_self ..)
  rw [eP1] at b1 b5
  have b1 : M1.1 4 2 = nI L.length := b1
  obtain ⟨b51, b52, b53⟩ := b5
  have b51 : M1.1 5 L.length = gp_eO (gp_mgO ch s.2.2.2) := b51
  have b52 : M1.1 6 L.length = gp_eO wh := b52
  cases eq : gp_mgO ch s.2.2.2 with
  | none => exact absurd eq (gp_mgO_some (hw.2.2.2.1 h3))
  | some q =>
    have hq : gp_sP q := gp_okO_s hpo.1 eq
    have hqn := gp_pN_lt hq
    rw [eq] at b51 eC
    have fin : ∀ v wh', v = gp_eO wh' → gp_bL k M (gz_w (gz_w M1 6 L.length v) 5 L.length (-1)) ∧ gp_bC k (gz_w (gz_w M1 6 L.length v) 5 L.length (-1)) (s.1, (gp_eP s).2.1, (none, wh') :: L, none) := by
      intro v wh' hv
      refine ⟨(e2.trans (gp_bL.w _ (by omega))).trans (gp_bL.w _ (by omega)), ?_, fun _ => ⟨?_, ?_, ?_, ?_, ⟨?_, ?_, b53.fr fun i hi => ⟨?_, ?_⟩⟩, ?_, ?_, ?_, ?_⟩⟩
      · exact e3.fr5 (fun c h1 h2 => by rw [gp_wc _ (by omega), gp_wc _ (by omega)])
      · rw [gp_gn (by omega), gp_gn (by omega)]; exact b1
      · rw [gp_gn (by omega), gp_gn (by omega), b2, eP2]
      · rw [gp_gn (by omega), gp_gn (by omega)]; exact b3
      · rw [gp_gn (by omega), gp_gn (by omega)]; exact b4
      · rw [gp_gs]; rfl
      · rw [gp_gn (by omega), gp_gs, hv]
      · rw [gp_gn (by omega), gp_gn (by omega)]
      · rw [gp_gn (by omega), gp_gn (by omega)]
      · rw [gp_gn (by omega), gp_gn (by omega)]; exact b6
      · rw [gp_gn (by omega), gp_gn (by omega)]; exact b7
      · rw [gp_gn (by omega), gp_gn (by omega)]; exact b8
      · rw [gp_gn (by omega), gp_gn (by omega)]; exact b9
    have b1' : ∀ v, (gz_w M1 6 L.length v).1 4 2 = nI L.length := fun v => by rw [gp_gn (by omega)]; exact b1
    have b45 : ∀ v, f1_endChain_45 k v (nI L.length) M1 = some (gz_w (gz_w M1 6 L.length v) 5 L.length (-1)) := fun v => by
      unfold f1_endChain_45
      rw [gp_ckb (show L.length < 7 by omega) (by omega), nI_clamp (by omega), gp_eL, b1', gp_ckb (show L.length < 7 by omega) (by omega), nI_clamp (by omega)]
      rfl
    unfold f1_endChain
    rw [e1, gp_eB, b1, gp_ckb (show L.length < 7 by omega) (by omega), nI_clamp (by omega), b51, gp_eL, gp_ckb (show L.length < 7 by omega) (by omega), b52, gp_eL, eC]
    cases ew : wh with
    | none =>
      rw [if_pos (by rfl), b45]
      exact ⟨_, rfl, fin _ _ rfl⟩
    | some w =>
      have hww : gp_sP w := gp_okO_s hpo.2 ew
      have hwn := gp_pN_lt hww
      rw [show gp_eO (some w) = nI (gp_pN w) from rfl, if_neg (show ¬ nI (gp_pN w) = (-1 : Int32) from by rw [gp_m1, gp_ne1 (by omega)]; exact id), b45]
      refine ⟨_, rfl, fin _ _ ?_⟩
      rw [show gp_eO (some q) = nI (gp_pN q) from rfl, gp_or, gp_unN]
      rfl
theorem gp_erC (hk : 6 < k) (hw : gp_wS s) (h3 : 3 ≤ s.1) (hl : s.2.2.1.length ≤ 1) (h : gp_bC k M s) : ∃ M', f1_endRule k M = some M' ∧ gp_bL k M M' ∧ gp_tC k M' (gp_eR s) := by
  obtain ⟨ch, wh, L, w, eL, ew, hwp, eR⟩ := gp_eR_f hw h3
  obtain ⟨f1, f2, f3, _, _, _, _, eP1, eP2, eP3, eP4⟩ := gp_eP_f hw (by omega)
  obtain ⟨ch', wh', L', eL', eC⟩ := gp_eCh_f hw (by omega)
  rw [eL] at eL'
  cases eL'
  rw [eL] at hl
  have hl : L.length + 1 ≤ 1 := hl
  have hL : L = [] := List.eq_nil_of_length_eq_zero (by omega)
  subst hL
  have hcc := hw.2.2.1 (by omega)
  have hmd4 := hcc.1
  have h7 := hw.1.2.2.1
  obtain ⟨M1, e1, e2, e3, e4⟩ := gp_ecC hk hw h3 h
  rw [eC] at e3 e4
  have e3 : gp_tC k M1 (gp_eP s).2.1 := e3
  have hR := e4 (by show 1 ≤ s.1; omega)
  obtain ⟨b1, b2, b3, b4, b5, b6, b7, b8, b9⟩ := hR
  rw [ew] at b5
  have b52 : M1.1 6 0 = nI (gp_pN w) := b5.2.1
  have b3 : M1.1 4 4 = nI s.2.1.1 := by rw [b3]; show nI (gp_eP s).2.1.1 = _; rw [f1.1]
  have b4 : M1.1 4 5 = nI (gp_md s.2.1) := by rw [b4]; show nI (gp_md (gp_eP s).2.1) = _; rw [f1.md]
  have b6 : M1.1 (k + 1) s.2.1.1 = nI (s.2.1.2.2 1 s.2.1.1) := by
    have b6 : M1.1 (k + 1) (gp_eP s).2.1.1 = nI ((gp_eP s).2.1.2.2 1 (gp_eP s).2.1.1) := b6
    rw [f1.1, f1.2.2.1 1 (by omega)] at b6
    exact b6
  have b7 : M1.1 (k + 2) s.2.1.1 = nI (s.2.1.2.2 2 s.2.1.1) := by
    have b7 : M1.1 (k + 2) (gp_eP s).2.1.1 = nI ((gp_eP s).2.1.2.2 2 (gp_eP s).2.1.1) := b7
    rw [f1.1, f1.2.2.1 2 (by omega)] at b7
    exact b7
  have b8 : M1.1 (k + 3) s.2.1.1 = nI (s.2.1.2.2 3 s.2.1.1) := by
    have b8 : M1.1 (k + 3) (gp_eP s).2.1.1 = nI ((gp_eP s).2.1.2.2 3 (gp_eP s).2.1.1) := b8
    rw [f1.1, f1.2.2.1 3 (by omega)] at b8
    exact b8
  have b9 : M1.1 (k + 4) s.2.1.1 = s.2.1.2.1 s.2.1.1 := by
    have b9 : M1.1 (k + 4) (gp_eP s).2.1.1 = (gp_eP s).2.1.2.1 (gp_eP s).2.1.1 := b9
    rw [f1.1, f1.2.1] at b9
    exact b9
  have hws : gp_sP w := gp_okO_s (T := s.2.1) (o := some w) (fun p hp => by cases hp; exact hwp) rfl
  have h8m : M1.1 (k + 8) (gp_md s.2.1) = nI (s.2.1.2.2 8 (gp_md s.2.1)) := by
    rw [(e3.2.2 _ hmd4).2.1, f1.2.2.1 8 (by omega)]
  have hv : vp_nar .boolean (if w.2.2 = true then (1 : Int32) else 0) = nI (if w.2.2 = true then 1 else 0) := by
    cases w.2.2 <;> decide
  unfold f1_endRule
  rw [e1, gp_eB, show gz_inb 0 7 = true from gp_inb (i := 0) (by omega) (by omega), gp_eC, gp_eL, show (0 : Int32).toNatClampNeg = 0 from rfl, b52, b4, gp_eL, gp_ckb hmd4 (by omega), gp_fOf hws, gp_eB2, gp_ckb hmd4 (by omega), nI_clamp (by omega), h8m, gp_or, gp_eL, gp_lOf hws, gp_eB2, gp_gn (by omega), b3, gp_ckb (show s.2.1.1 < 8 by omega) (by omega), nI_clamp (by omega), gp_eL, gp_mOf hws, gp_eB2, gp_gn (by omega), gp_gn (by omega), b3, gp_ckb (show s.2.1.1 < 8 by omega) (by omega), nI_clamp (by omega), gp_eL, gp_gn (by omega), gp_gn (by omega), gp_gn (by omega), b3, nI_1, gp_eL, hv]
  refine ⟨_, rfl, (((e2.trans (gp_bL.w _ (by omega))).trans (gp_bL.w _ (by omega))).trans (gp_bL.w _ (by omega))).trans (gp_bL.w _ (by omega)), ?_⟩
  rw [eR]
  refine ⟨by rw [gp_gs], fun j hj => ?_, fun m hm => ?_⟩
  · have hj : j < s.2.1.1 + 1 := hj
    have oth : ∀ c, c ≤ 4 → (gp_set (gp_set (gp_set (gp_eP s).2.1.2.2 8 (gp_md s.2.1) (s.2.1.2.2 8 (gp_md s.2.1) ||| w.1)) 5 s.2.1.1 w.2.1) 6 s.2.1.1 (if w.2.2 = true then 1 else 0)) c j = s.2.1.2.2 c j := fun c hc => by
      unfold gp_set
      rw [if_neg (by omega), if_neg (by omega), if_neg (by omega), f1.2.2.1 c (by omega)]
    have r : ∀ c, 1 ≤ c → c ≤ 4 → (gz_w (gz_w (gz_w (gz_w M1 (k + 8) (gp_md s.2.1) (nI (s.2.1.2.2 8 (gp_md s.2.1) ||| w.1))) (k + 5) s.2.1.1 (nI w.2.1)) (k + 6) s.2.1.1 (nI (if w.2.2 = true then 1 else 0))) k 0 (nI (s.2.1.1 + 1))).1 (k + c) = M1.1 (k + c) := fun c h1 h2 => by rw [gp_wc _ (by omega), gp_wc _ (by omega), gp_wc _ (by omega), gp_wc _ (by omega)]
    dsimp only
    rw [oth 1 (by omega), oth 2 (by omega), oth 3 (by omega), r 1 (by omega) (by omega), r 2 (by omega) (by omega), r 3 (by omega) (by omega), r 4 (by omega) (by omega)]
    by_cases hjT : j = s.2.1.1
    · subst hjT
      refine ⟨b6, b7, b8, b9, ?_, ?_⟩
      · rw [gp_gn (by omega), gp_gn (by omega), gp_gs]
        dsimp only [gp_set]
        rw [if_neg (by omega), if_pos ⟨rfl, rfl⟩]
      · rw [gp_gn (by omega), gp_gs]
        exact congrArg nI (if_pos (c := (6 : Nat) = 6 ∧ s.2.1.1 = s.2.1.1) ⟨rfl, rfl⟩).symm
    · obtain ⟨a1, a2, a3, a4, a5, a6⟩ := e3.2.1 j (by rw [f1.1]; omega)
      rw [f1.2.2.1 1 (by omega)] at a1
      rw [f1.2.2.1 2 (by omega)] at a2
      rw [f1.2.2.1 3 (by omega)] at a3
      rw [f1.2.1] at a4
      refine ⟨a1, a2, a3, a4, ?_, ?_⟩
      · rw [gp_gn (by omega), gp_gn (by omega), gp_gn (by omega), gp_gn (by omega), a5]
        dsimp only [gp_set]
        rw [if_neg (by omega), if_neg (by omega), if_neg (by omega)]
      · rw [gp_gn (by omega), gp_gn (by omega), gp_gn (by omega), gp_gn (by omega), a6]
        dsimp only [gp_set]
        rw [if_neg (by omega), if_neg (by omega), if_neg (by omega)]
  · obtain ⟨a1, a2, a3, a4⟩ := e3.2.2 m hm
    refine ⟨?_, ?_, fun x hx => ?_, fun x hx => ?_⟩
    · rw [gp_gn (by omega), gp_gn (by omega), gp_gn (by omega), gp_gn (by omega), a1]
      dsimp only [gp_set]
      rw [if_neg (by omega), if_neg (by omega), if_neg (by omega)]
    · rw [gp_gn (by omega), gp_gn (by omega), gp_gn (by omega)]
      dsimp only [gp_set]
      rw [if_neg (by omega), if_neg (by omega)]
      by_cases hmm : m = gp_md s.2.1
      · rw [hmm, gp_gs, if_pos ⟨rfl, rfl⟩]
      · rw [gp_gn (by omega), a2, if_neg (by omega)]
    · rw [gp_gn (by omega), gp_gn (by omega), gp_gn (by omega), gp_gn (by omega), a3 x hx]
      dsimp only [gp_set]
      rw [if_neg (by omega), if_neg (by omega), if_neg (by omega)]
    · rw [gp_gn (by omega), gp_gn (by omega), gp_gn (by omega), gp_gn (by omega), a4 x hx]
      dsimp only [gp_set]
      rw [if_neg (by omega), if_neg (by omega), if_neg (by omega)]
end
