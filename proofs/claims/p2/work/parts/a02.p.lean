/-! rules told as a text: the reference reads a rule -/
/-- a rule can end here -/
def gp_endS (t : List Nat) (p : Nat) (s : gp_S) : Prop := 3 ≤ s.1 ∧ s.1 ≠ 4 ∧ gp_mEnd t s ∧ (gp_hr t p = some 59 → gp_stp s 59 = gp_nxt s) ∧ ∀ c, gp_hr t p = some c → c ≠ 59 → gp_stp s c = none
def gp_rules1 (M : gz_M) (t : List Nat) (p : Nat) (s : gp_S) : Prop := gp_at M t p ∧ gp_wS s ∧ gp_itr t p 0 gp_s0 = some s ∧ (∀ m, s.2.1.2.2 7 m ≤ p) ∧ gp_tP M (gp_eR s) ∧ gp_endS t p s
section
variable {M M' N : gz_M} {t : List Nat} {p q c r a : Nat} {s : gp_S}
theorem gp_rF.rL (h : gp_rF M M') (e10 : M'.1 0 10 = M.1 0 10) : gp_rL M M' := ⟨h.1, fun c h1 h2 => h.2.1 c h1 (by omega) (by omega) (by omega) (by omega), fun i hi => h.2.2 i (by omega) (by omega) (by omega)⟩
theorem gp_r127a (hr : r < 8) (ha : a ≤ 1) (N : gz_M) : f12_readRule_127 (nI r) (nI a) (nI r) N = some (gz_w (gz_w N 7 r (nI a)) 8 r (-1)) := by
  unfold f12_readRule_127
  rw [gp_ckb hr (by omega), gp_eL, gp_ckb hr (by omega), nI_clamp (by omega), gp_gs, if_pos (show nI a ≤ (1 : Int32) from nI_le (b := 1) ha (by omega)), gp_ckb hr (by omega), gp_eL]
theorem gp_r127b (hr : r < 8) (ha : 2 ≤ a) (ha3 : a ≤ 3) (h : gp_at N t q) : f12_readRule_127 (nI r) (nI a) (nI r) N = match gp_hr t q with | none => some (gz_w (gz_w (gz_w N 7 r (nI a)) 0 9 (nI q)) 8 r 0) | some c => if 48 ≤ c ∧ c ≤ 51 then some (gz_w (gz_w (gz_w N 7 r (nI a)) 0 8 (nI (q + 1))) 8 r (nI (c - 48))) else some (gz_w (gz_w (gz_w N 7 r (nI a)) 0 9 (nI q)) 8 r 0) := by
  have h1 : gp_at (gz_w N 7 r (nI a)) t q := h.fr (gp_rL.w _ (by omega)) (gp_gn (by omega)) (gp_gn (by omega))
  have e := gp_oneE h1 (a := 48) (b := 3) (by omega) (by omega)
  unfold f12_readRule_127
  rw [gp_ckb hr (by omega), gp_eL, gp_ckb hr (by omega), nI_clamp (by omega), gp_gs, if_neg (show ¬ nI a ≤ (1 : Int32) from nI_ge (a := 1) ha (by omega)), show f12_oneOf 48 4 (gz_w N 7 r (nI a)) = _ from e]
  cases gp_hr t q with
  | none => dsimp only; rw [gp_eB2, gp_ckb hr (by omega), gp_eL]
  | some c =>
    dsimp only
    by_cases hc : 48 ≤ c ∧ c ≤ 51
    · rw [if_pos (show 48 ≤ c ∧ c ≤ 48 + 3 from hc), if_pos hc, gp_eB2, gp_ckb hr (by omega), gp_eL]
    · rw [if_neg (show ¬ (48 ≤ c ∧ c ≤ 48 + 3) from hc), if_neg hc, gp_eB2, gp_ckb hr (by omega), gp_eL]
theorem gp_narB (b : Bool) : vp_nar .boolean (nI (if b = true then 1 else 0)) = nI (if b = true then 1 else 0) := by cases b <;> decide
theorem gp_hrS (h : p < t.length) : gp_hr t p = some (t.getD p 0) := by unfold gp_hr; rw [if_pos h]
theorem gp_hrN (h : gp_hr t p = none) (hp : p ≤ t.length) : p = t.length := by
  unfold gp_hr at h
  split at h
  · cases h
  · omega
theorem gp_rdRule (ha : gp_at M t p) (hw : gp_wS s) (hi : gp_itr t p 0 gp_s0 = some s) (hu : ∀ m, s.2.1.2.2 7 m ≤ p) (h0 : s.1 = 0) (hT : gp_tP M s.2.1) (hr : s.2.1.1 = r) (hne : t.length ≠ 0) : ∃ M', f12_readRule (nI r) M = some M' ∧ gp_rL M M' ∧ M'.1 0 10 = M.1 0 10 ∧ (gp_bad M' t ∨ ∃ p' s', gp_rules1 M' t p' s' ∧ p < p' ∧ s'.2.1.1 = r) := by
  have h80 := ha.1
  have hpl := ha.2.1
  have h7 : r ≤ 7 := by rw [← hr]; exact hw.1.2.2.1
  -- a fault ahead of the way
  have bad5 : ∀ M5 q s1, gp_itr t q 0 gp_s0 = some s1 → q ≤ t.length → (∀ c, gp_hr t q = some c → gp_stp s1 c = none) → s1.1 < 3 → M5.1 0 9 = nI q → gp_bad M5 t := fun M5 q s1 a1 a2 a3 a4 a5 => ⟨q, s1, a1, a2, fun h => a3 _ (gp_hrS h), fun _ hm => by rcases hm with h | h | h <;> omega, a5⟩
  have bad1 : f12_oneOf 48 4 M = some (0, gz_w M 0 9 (nI p)) → (∀ c, gp_hr t p = some c → ¬ (48 ≤ c ∧ c ≤ 51)) → ∃ M', f12_readRule (nI r) M = some M' ∧ gp_rL M M' ∧ M'.1 0 10 = M.1 0 10 ∧ (gp_bad M' t ∨ ∃ p' s', gp_rules1 M' t p' s' ∧ p < p' ∧ s'.2.1.1 = r) := fun e hc => by
    have e9 : (gz_w (gz_w M 0 9 (nI p)) 5 r 0).1 0 9 = nI p := by rw [gp_gn (by omega), gp_gs]
    unfold f12_readRule
    rw [e, gp_eB2, gp_ckb (show r < 8 by omega) (by omega), gp_eL, nI_clamp (by omega), gp_needN e9 (by omega), gp_eB, gp_nfine e9 (by omega), gp_eB2, if_pos rfl]
    refine ⟨_, rfl, (gp_rL.w0 _ (by omega)).trans (gp_rL.w _ (by omega)), by rw [gp_gn (by omega), gp_gn (by omega)], Or.inl (bad5 _ p s hi hpl (fun c h => ?_) (by omega) e9)⟩
    unfold gp_stp
    rw [if_pos h0, if_neg (hc c h)]
  have one := gp_oneE ha (a := 48) (b := 3) (by omega) (by omega)
  cases e : gp_hr t p with
  | none =>
    rw [e] at one
    exact bad1 one (fun c h => by rw [e] at h; cases h)
  | some c =>
    rw [e] at one
    dsimp only at one
    by_cases hd : 48 ≤ c ∧ c ≤ 48 + 3
    · rw [if_pos hd] at one
      obtain ⟨hc256, hpl1, htp⟩ := gp_hr_lt ha e
      have hst : gp_stp s (t.getD p 0) = some (gp_beg s c) := by
        rw [htp]
        unfold gp_stp
        rw [if_pos h0, if_pos (by omega)]
      have hc1 : t.getD p 0 < 256 := by rw [htp]; exact hc256
      have w1 := gp_stp_w hc1 hw hst
      have i1 := gp_itr_s hi hst
      have u1 := gp_good_u hw hc1 hst hu
      obtain ⟨M5, hM5⟩ : ∃ M5, M5 = gz_w (gz_w M 0 8 (nI (p + 1))) 5 r (nI (c - 48)) := ⟨_, rfl⟩
      have a5 : gp_at M5 t (p + 1) := by
        rw [hM5]
        exact (ha.nx hpl1).fr (gp_rL.w _ (by omega)) (gp_gn (by omega)) (gp_gn (by omega))
      have l5 : gp_rL M M5 := by rw [hM5]; exact (gp_rL.w0 _ (by omega)).trans (gp_rL.w _ (by omega))
      have t5 : M5.1 0 10 = M.1 0 10 := by rw [hM5, gp_gn (by omega), gp_gn (by omega)]
      have s0 : f12_readRule (nI r) M = gz_bd (f12_need 58 M5) fun M6 => gz_bd2 (f12_fine M6) fun v8 M9 => if v8 = 0 then (some M9) else (gz_ck (gz_inb (nI r) 8) <| gz_lt (gz_w M9 6 (nI r).toNatClampNeg 0) fun M13 => gz_lt (gz_w M13 0 24 0) fun M14 => gz_bd (f12_readWay 8 (nI r) M14) fun M15 => gz_bd2 (f12_fine M15) fun v17 M18 => if v17 = 0 then (some M18) else (gz_ck (gz_inb (nI r) 8) <| gz_lt (gz_w M18 9 (nI r).toNatClampNeg (vp_nar .boolean (M18.1 0 21))) fun M22 => gz_ck (gz_inb (nI r) 8) <| gz_lt (gz_w M22 10 (nI r).toNatClampNeg (M22.1 0 22)) fun M24 => gz_ck (gz_inb (nI r) 8) <| gz_lt (gz_w M24 11 (nI r).toNatClampNeg (M24.1 0 23)) fun M26 => gz_bd2 (f12_passes 60 M26) fun v27 M28 => if v27 = 0 then (gz_bd2 (f12_passes 62 M28) fun v31 M32 => if v31 = 0 then (gz_bd2 (f12_passes 61 M32) fun v35 M36 => if v35 = 0 then (f12_readRule_127 (nI r) 0 (nI r) M36) else (f12_readRule_127 (nI r) 3 (nI r) M36)) else (f12_readRule_127 (nI r) 2 (nI r) M32)) else (f12_readRule_127 (nI r) 1 (nI r) M28))) := by
        unfold f12_readRule
        rw [show f12_oneOf 48 4 M = _ from one, gp_eB2, gp_ckb (show r < 8 by omega) (by omega), gp_eL, nI_clamp (by omega), ← hM5]
      rw [s0]
      clear s0
      by_cases h58 : gp_hr t (p + 1) = some 58
      · obtain ⟨_, hpl2, htp2⟩ := gp_hr_lt a5 h58
        have hst2 : gp_stp (gp_beg s c) (t.getD (p + 1) 0) = some (2, (gp_beg s c).2.1, (gp_beg s c).2.2.1, (gp_beg s c).2.2.2) := by
          rw [htp2]
          rfl
        have hc2 : t.getD (p + 1) 0 < 256 := by rw [htp2]; decide
        have w2 := gp_stp_w hc2 w1 hst2
        have i2 := gp_itr_s i1 hst2
        have u2 := gp_good_u w1 hc2 hst2 u1
        obtain ⟨M14, hM14⟩ : ∃ M14, M14 = gz_w (gz_w (gz_w M5 0 8 (nI (p + 1 + 1))) 6 r 0) 0 24 0 := ⟨_, rfl⟩
        have l14 : gp_rL M5 M14 := by rw [hM14]; exact ((gp_rL.w0 _ (by omega)).trans (gp_rL.w _ (by omega))).trans (gp_rL.w0 _ (by omega))
        have a14 : gp_at M14 t (p + 1 + 1) := by
          rw [hM14]
          exact (a5.nx hpl2).fr ((gp_rL.w _ (by omega)).trans (gp_rL.w0 _ (by omega))) (by rw [gp_gn (by omega), gp_gn (by omega)]) (by rw [gp_gn (by omega), gp_gn (by omega)])
        have t14 : M14.1 0 10 = M.1 0 10 := by rw [hM14, gp_gn (by omega), gp_gn (by omega), gp_gn (by omega), t5]
        have n14 : ∀ a i, a ≠ 0 → ¬ (a = 5 ∧ i = r) → ¬ (a = 6 ∧ i = r) → M14.1 a i = M.1 a i := fun a i h1 h2 h3 => by
          rw [hM14, gp_gn (by omega), gp_gn (by omega), gp_gn (by omega), hM5, gp_gn (by omega), gp_gn (by omega)]
        have r5 : M14.1 5 r = nI (c - 48) := by rw [hM14, gp_gn (by omega), gp_gn (by omega), gp_gn (by omega), hM5, gp_gs]
        have r6 : M14.1 6 r = 0 := by rw [hM14, gp_gn (by omega), gp_gs]
        have bT : ∀ a b, ¬ (a = 1 ∧ b = r) → ¬ (a = 2 ∧ b = r) → ¬ (a = 3 ∧ b = r) → (gp_beg s c).2.1.2.2 a b = s.2.1.2.2 a b := fun a b h1 h2 h3 => by
          unfold gp_beg
          dsimp only [gp_set]
          rw [hr, if_neg h3, if_neg h2, if_neg h1]
        have b1 : (gp_beg s c).2.1.2.2 1 r = c - 48 := by
          unfold gp_beg
          dsimp only [gp_set]
          rw [hr, if_neg (by omega), if_neg (by omega), if_pos ⟨rfl, rfl⟩]
        have b2 : (gp_beg s c).2.1.2.2 2 r = 0 := by
          unfold gp_beg
          dsimp only [gp_set]
          rw [hr, if_neg (by omega), if_pos ⟨rfl, rfl⟩]
        have bD : ∀ j, j ≠ r → (gp_beg s c).2.1.2.1 j = s.2.1.2.1 j := fun j h => by
          unfold gp_beg
          dsimp only [gp_setD]
          rw [hr, if_neg h]
        have T14 : gp_tP M14 (gp_beg s c).2.1 := by
          obtain ⟨h1, ⟨bg, h2, h3⟩, h4⟩ := hT
          have hT1 : (gp_beg s c).2.1.1 = r := hr
          refine ⟨fun j hj => ?_, ⟨bg, fun j hj => ?_, fun m hm => ?_⟩, fun m hm => ?_⟩
          · have hj : j < r := by omega
            rw [n14 5 j (by omega) (by omega) (by omega), n14 6 j (by omega) (by omega) (by omega), n14 7 j (by omega) (by omega) (by omega), n14 8 j (by omega) (by omega) (by omega), n14 9 j (by omega) (by omega) (by omega), n14 11 j (by omega) (by omega) (by omega), bT 1 j (by omega) (by omega) (by omega), bT 2 j (by omega) (by omega) (by omega), bT 3 j (by omega) (by omega) (by omega), bT 5 j (by omega) (by omega) (by omega), bT 6 j (by omega) (by omega) (by omega), bD j (by omega)]
            exact h1 j (by omega)
          · rw [n14 10 j (by omega) (by omega) (by omega)]
            exact h2 j (by omega)
          · rw [bT 8 m (by omega) (by omega) (by omega), h3 m hm, hT1, hr]
            exact gp_orN_e (fun j hj => by rw [bT 1 j (by omega) (by omega) (by omega)])
          · have hu10 : gp_u10 (gp_beg s c).2.1 m = gp_u10 s.2.1 m := by unfold gp_u10; rw [bT 7 m (by omega) (by omega) (by omega)]
            rw [hu10, n14 12 m (by omega) (by omega) (by omega), bT 7 m (by omega) (by omega) (by omega)]
            refine ⟨(h4 m hm).1, fun x hx => ?_⟩
            obtain ⟨g1, k, g2, g3, g4⟩ := (h4 m hm).2 x hx
            refine ⟨by rw [n14 14 _ (by omega) (by omega) (by omega), bT (10 + m) x (by omega) (by omega) (by omega)]; exact g1, k, g2, by rw [n14 13 _ (by omega) (by omega) (by omega)]; exact g3, fun z hz => ?_⟩
            rw [bT (15 + m) z (by omega) (by omega) (by omega)]
            exact g4 z hz
        have c14 : gp_tc M14 (gp_beg s c).2.1 := by
          have hT1 : (gp_beg s c).2.1.1 = r := hr
          unfold gp_tc gp_md
          rw [hT1, b1, b2, r5, r6]
          exact ⟨rfl, rfl⟩
        have good14 : gp_good M14 t (p + 1 + 1) (2, (gp_beg s c).2.1, (gp_beg s c).2.2.1, (gp_beg s c).2.2.2) (gp_beg s c).2.1 := ⟨a14, w2, i2, u2, T14, c14, by rw [hM14, gp_gs]; rfl⟩
        obtain ⟨M15, e15, f15, d15⟩ := gp_way (t := t) (r := r) 8 0 rfl (by omega) (p + 1 + 1) _ M14 [] good14 rfl rfl rfl hr
        have t15 : M15.1 0 10 = M.1 0 10 := (f15.2.2 10 (by omega) (by omega) (by omega)).trans t14
        have l15 : gp_rL M M15 := (l5.trans l14).trans (f15.rL (f15.2.2 10 (by omega) (by omega) (by omega)))
        rw [show (58 : Int32) = nI 58 from rfl, gp_needE a5 (by omega), if_pos h58, gp_eB, gp_fineE (a5.nx hpl2), gp_eB2, if_neg (show ¬ (1 : Int32) = 0 by decide), gp_ckb (show r < 8 by omega) (by omega), nI_clamp (by omega), gp_eL, gp_eL, ← hM14, e15, gp_eB]
        rcases d15 with hb | ⟨p', s', w, ch, wh, ⟨g1, g2, g3, g4, g5, g6, g7⟩, h3, hL, hq, hp, hr', hlt, hsuf, hip, h124⟩
        · obtain ⟨z, z1, z2⟩ := hb.nf h80
          rw [gp_nfine z2 z1, gp_eB2, if_pos rfl]
          exact ⟨M15, rfl, l15, t15, Or.inl hb⟩
        · rw [gp_fineE g1, gp_eB2, if_neg (show ¬ (1 : Int32) = 0 by decide), gp_ckb (show r < 8 by omega) (by omega), gp_eL, gp_ckb (show r < 8 by omega) (by omega), gp_gn (by omega), gp_eL, gp_ckb (show r < 8 by omega) (by omega), gp_gn (by omega), gp_gn (by omega), gp_eL, hp.1, hp.2.1, hp.2.2, gp_narB]
          obtain ⟨N, hN⟩ : ∃ N, N = gz_w (gz_w (gz_w M15 9 r (nI (if w.2.2 = true then 1 else 0))) 10 r (nI w.1)) 11 r (nI w.2.1) := ⟨_, rfl⟩
          rw [← hN]
          have lN0 : gp_rL M15 N := by rw [hN]; exact ((gp_rL.w _ (by omega)).trans (gp_rL.w _ (by omega))).trans (gp_rL.w _ (by omega))
          have oN : ∀ i, N.1 0 i = M15.1 0 i := fun i => by rw [hN, gp_gn (by omega), gp_gn (by omega), gp_gn (by omega)]
          have aN : gp_at N t p' := g1.fr lN0 (oN 8) (oN 9)
          have lN := l15.trans lN0
          have tN : N.1 0 10 = M.1 0 10 := by rw [oN, t15]
          have nN : ∀ a i, ¬ (a = 9 ∧ i = r) → ¬ (a = 10 ∧ i = r) → ¬ (a = 11 ∧ i = r) → N.1 a i = M15.1 a i := fun a i h1 h2 h3 => by rw [hN, gp_gn (by omega), gp_gn (by omega), gp_gn (by omega)]
          have N9 : N.1 9 r = nI (if w.2.2 = true then 1 else 0) := by rw [hN, gp_gn (by omega), gp_gn (by omega), gp_gs]
          have N10 : N.1 10 r = nI w.1 := by rw [hN, gp_gn (by omega), gp_gs]
          have N11 : N.1 11 r = nI w.2.1 := by rw [hN, gp_gs]
          have hna := gp_na_at g1 g3 (by omega) (by omega)
          rw [hr'] at hna
          have hlen : s'.2.2.1.length = 1 := by rw [hL]; rfl
          have hsf : ∀ c, gp_hr t p' = some c → ¬ (c = 42 ∨ c = 43 ∨ c = 63) := fun c hc h => hsuf (by rcases h with rfl | rfl | rfl <;> simp [hc])
          have hisp : ∀ c, gp_hr t p' = some c → ¬ (gp_isL c = true ∨ c = 40) := fun c hc h => by
            rw [hc] at hip
            unfold gp_isP at hip
            rcases h with h | h
            · simp [h] at hip
            · simp [h] at hip
          -- the machine at s'
          have stp' : ∀ c, gp_hr t p' = some c → gp_stp s' c = if c = 60 then some (gp_act1 s' 5 1) else if c = 62 then some (gp_act1 s' 4 2) else if c = 61 then some (gp_act1 s' 4 3) else if c = 59 then gp_nxt s' else none := fun c hc => by
            unfold gp_stp
            rw [if_neg (by omega), if_neg (by omega), if_neg (by omega), if_pos h3, if_neg (hisp c hc), if_neg (hsf c hc), if_neg (fun h => h124 (by rw [hc, h]))]
            by_cases h41 : c = 41
            · rw [if_pos h41, if_pos (by omega), if_neg (by omega), if_neg (by omega), if_neg (by omega), if_neg (by omega)]
            · rw [if_neg h41, if_pos (by omega)]
          -- an end of the rule
          have fin : ∀ N' p2 s2, gp_at N' t p2 → gp_rL N N' → N'.1 0 10 = N.1 0 10 → p' ≤ p2 → gp_wS s2 → gp_itr t p2 0 gp_s0 = some s2 → (∀ m, s2.2.1.2.2 7 m ≤ p2) → 3 ≤ s2.1 → s2.2.1.1 = r → (∀ j, j < r → s2.2.1.2.1 j = s'.2.1.2.1 j) → (∀ a b, ¬ (a = 3 ∧ b = r) → s2.2.1.2.2 a b = s'.2.1.2.2 a b) → s2.2.2.1 = s'.2.2.1 → s2.2.2.2 = s'.2.2.2 → (∀ a i, a ≠ 0 → ¬ (a = 7 ∧ i = r) → ¬ (a = 8 ∧ i = r) → N'.1 a i = N.1 a i) → N'.1 7 r = nI (s2.2.1.2.2 3 r) → N'.1 8 r = s2.2.1.2.1 r → gp_endS t p2 s2 → ∃ M', some N' = some M' ∧ gp_rL M M' ∧ M'.1 0 10 = M.1 0 10 ∧ (gp_bad M' t ∨ ∃ p' s', gp_rules1 M' t p' s' ∧ p < p' ∧ s'.2.1.1 = r) := by
            intro N' p2 s2 q1 q2 q3 q4 q5 q6 q7 q8 q9 q10 q11 q12 q13 q14 q15 q16 q17
            refine ⟨N', rfl, lN.trans q2, q3.trans tN, Or.inr ⟨p2, s2, ⟨q1, q5, q6, q7, ?_, q17⟩, by omega, q9⟩⟩
            refine gp_eR_c g2 q5 h3 q8 hr' q9 q10 q11 q12 q13 hL hq g5 g6 (fun a h1 h2 => ?_) (fun a j h1 h2 h3 => ?_) ?_ ?_ q15 q16 ?_ ?_ ?_
            · funext i
              rw [q14 a i (by omega) (by omega) (by omega), nN a i (by omega) (by omega) (by omega)]
            · rw [q14 a j (by omega) (by omega) (by omega), nN a j (by omega) (by omega) (by omega)]
            · rw [q14 5 r (by omega) (by omega) (by omega), nN 5 r (by omega) (by omega) (by omega)]
            · rw [q14 6 r (by omega) (by omega) (by omega), nN 6 r (by omega) (by omega) (by omega)]
            · rw [q14 9 r (by omega) (by omega) (by omega), N9]
            · rw [q14 10 r (by omega) (by omega) (by omega), N10]
            · rw [q14 11 r (by omega) (by omega) (by omega), N11]
          -- an act with a digit
          have dig : ∀ a c1, 2 ≤ a → a ≤ 3 → gp_hr t p' = some c1 → gp_stp s' c1 = some (gp_act1 s' 4 a) → ∃ M', f12_readRule_127 (nI r) (nI a) (nI r) (gz_w N 0 8 (nI (p' + 1))) = some M' ∧ gp_rL M M' ∧ M'.1 0 10 = M.1 0 10 ∧ (gp_bad M' t ∨ ∃ p' s', gp_rules1 M' t p' s' ∧ p < p' ∧ s'.2.1.1 = r) := by
            intro a c1 a2 a3 hc1 hs1
            obtain ⟨hcc, hpl', htp'⟩ := gp_hr_lt g1 hc1
            have hc1' : t.getD p' 0 < 256 := by rw [htp']; exact hcc
            rw [← htp'] at hs1
            have w3 := gp_stp_w hc1' g2 hs1
            have i3 := gp_itr_s g3 hs1
            have u3 := gp_good_u g2 hc1' hs1 g4
            have aQ : gp_at (gz_w N 0 8 (nI (p' + 1))) t (p' + 1) := aN.nx hpl'
            have no : gp_rL N (gz_w (gz_w (gz_w (gz_w N 0 8 (nI (p' + 1))) 7 r (nI a)) 0 9 (nI (p' + 1))) 8 r 0) := (((gp_rL.w0 _ (by omega)).trans (gp_rL.w _ (by omega))).trans (gp_rL.w0 _ (by omega))).trans (gp_rL.w _ (by omega))
            have badd : (∀ c, gp_hr t (p' + 1) = some c → ¬ (48 ≤ c ∧ c ≤ 51)) → ∃ M', some (gz_w (gz_w (gz_w (gz_w N 0 8 (nI (p' + 1))) 7 r (nI a)) 0 9 (nI (p' + 1))) 8 r 0) = some M' ∧ gp_rL M M' ∧ M'.1 0 10 = M.1 0 10 ∧ (gp_bad M' t ∨ ∃ p' s', gp_rules1 M' t p' s' ∧ p < p' ∧ s'.2.1.1 = r) := fun hn => by
              refine ⟨_, rfl, lN.trans no, by rw [gp_gn (by omega), gp_gn (by omega), gp_gn (by omega), gp_gn (by omega), tN], Or.inl ⟨p' + 1, _, i3, aQ.2.1, fun h => ?_, fun _ hm => ?_, by rw [gp_gn (by omega), gp_gs]⟩⟩
              · have := hn _ (gp_hrS h)
                show (if 48 ≤ _ ∧ _ ≤ 51 then _ else _) = _
                rw [if_neg this]
              · rcases hm with h | h | h
                · omega
                · have h : (4 : Nat) = 5 := h
                  omega
                · have h : (4 : Nat) = 3 := h.1
                  omega
            have e127 := gp_r127b (a := a) (show r < 8 by omega) a2 a3 aQ
            rw [e127]
            cases ed : gp_hr t (p' + 1) with
            | none => exact badd (fun c h => by rw [ed] at h; cases h)
            | some d =>
              dsimp only
              by_cases hd : 48 ≤ d ∧ d ≤ 51
              · rw [if_pos hd]
                obtain ⟨hdd, hpl2, htp2⟩ := gp_hr_lt aQ ed
                have hd' : t.getD (p' + 1) 0 < 256 := by rw [htp2]; exact hdd
                have hs2 : gp_stp (gp_act1 s' 4 a) (t.getD (p' + 1) 0) = some (5, (s'.2.1.1, gp_setD s'.2.1.2.1 s'.2.1.1 (nI (d - 48)), gp_set s'.2.1.2.2 3 s'.2.1.1 a), s'.2.2.1, s'.2.2.2) := by
                  rw [htp2]
                  show (if 48 ≤ d ∧ d ≤ 51 then _ else _) = _
                  rw [if_pos hd]
                  rfl
                refine fin _ (p' + 1 + 1) _ ?_ ((((gp_rL.w0 _ (by omega)).trans (gp_rL.w _ (by omega))).trans (gp_rL.w0 _ (by omega))).trans (gp_rL.w _ (by omega))) (by rw [gp_gn (by omega), gp_gn (by omega), gp_gn (by omega), gp_gn (by omega)]) (by omega) (gp_stp_w hd' w3 hs2) (gp_itr_s i3 hs2) (gp_good_u w3 hd' hs2 u3) (by show 3 ≤ 5; omega) hr' (fun j hj => ?_) (fun a b h => ?_) rfl rfl (fun a i h1 h2 h3 => ?_) ?_ ?_ ?_
                · refine (((aN.nx hpl').fr (M' := gz_w (gz_w N 0 8 (nI (p' + 1))) 7 r (nI a)) (gp_rL.w _ (by omega)) (gp_gn (by omega)) (gp_gn (by omega))).nx hpl2).fr (gp_rL.w _ (by omega)) (gp_gn (by omega)) (gp_gn (by omega))
                · show gp_setD s'.2.1.2.1 s'.2.1.1 _ j = _
                  unfold gp_setD
                  rw [if_neg (by omega)]
                · show gp_set s'.2.1.2.2 3 s'.2.1.1 _ a b = _
                  unfold gp_set
                  rw [hr', if_neg h]
                · rw [gp_gn (by omega), gp_gn (by omega), gp_gn (by omega), gp_gn (by omega)]
                · rw [gp_gn (by omega), gp_gn (by omega), gp_gs]
                  show _ = nI (gp_set s'.2.1.2.2 3 s'.2.1.1 _ 3 r)
                  unfold gp_set
                  rw [hr', if_pos ⟨rfl, rfl⟩]
                · rw [gp_gs]
                  show _ = gp_setD s'.2.1.2.1 s'.2.1.1 _ r
                  unfold gp_setD
                  rw [hr', if_pos rfl]
                · refine ⟨by show 3 ≤ 5; omega, by show (5 : Nat) ≠ 4; omega, Or.inr (Or.inl rfl), fun _ => rfl, fun c hc hn => ?_⟩
                  show (if c = 59 then _ else none) = none
                  rw [if_neg hn]
              · rw [if_neg hd]
                exact badd (fun c h => by rw [ed] at h; cases h; exact hd)
          rw [show (60 : Int32) = nI 60 from rfl, gp_passE aN (by omega)]
          by_cases h60 : gp_hr t p' = some 60
          · rw [if_pos h60, gp_eB2, if_neg (show ¬ (1 : Int32) = 0 by decide), show (1 : Int32) = nI 1 from rfl, gp_r127a (show r < 8 by omega) (by omega)]
            obtain ⟨hcc, hpl', htp'⟩ := gp_hr_lt g1 h60
            have hc1' : t.getD p' 0 < 256 := by rw [htp']; exact hcc
            have hs1 : gp_stp s' (t.getD p' 0) = some (gp_act1 s' 5 1) := by rw [htp', stp' 60 h60, if_pos rfl]
            refine fin _ (p' + 1) _ ?_ (((gp_rL.w0 _ (by omega)).trans (gp_rL.w _ (by omega))).trans (gp_rL.w _ (by omega))) (by rw [gp_gn (by omega), gp_gn (by omega), gp_gn (by omega)]) (by omega) (gp_stp_w hc1' g2 hs1) (gp_itr_s g3 hs1) (gp_good_u g2 hc1' hs1 g4) (by show 3 ≤ 5; omega) hr' (fun j hj => rfl) (fun a b h => ?_) rfl rfl (fun a i h1 h2 h3 => ?_) ?_ ?_ ?_
            · exact (aN.nx hpl').fr ((gp_rL.w _ (by omega)).trans (gp_rL.w _ (by omega))) (by rw [gp_gn (by omega), gp_gn (by omega)]) (by rw [gp_gn (by omega), gp_gn (by omega)])
            · show gp_set s'.2.1.2.2 3 s'.2.1.1 _ a b = _
              unfold gp_set
              rw [hr', if_neg h]
            · rw [gp_gn (by omega), gp_gn (by omega), gp_gn (by omega)]
            · rw [gp_gn (by omega), gp_gs]
              show _ = nI (gp_set s'.2.1.2.2 3 s'.2.1.1 _ 3 r)
              unfold gp_set
              rw [hr', if_pos ⟨rfl, rfl⟩]
            · rw [gp_gs]
              exact hna.2.symm
            · refine ⟨by show 3 ≤ 5; omega, by show (5 : Nat) ≠ 4; omega, Or.inr (Or.inl rfl), fun _ => rfl, fun c hc hn => ?_⟩
              show (if c = 59 then _ else none) = none
              rw [if_neg hn]
          · rw [if_neg h60, gp_eB2, if_pos rfl, show (62 : Int32) = nI 62 from rfl, gp_passE aN (by omega)]
            by_cases h62 : gp_hr t p' = some 62
            · rw [if_pos h62, gp_eB2, if_neg (show ¬ (1 : Int32) = 0 by decide), show (2 : Int32) = nI 2 from rfl]
              exact dig 2 62 (by omega) (by omega) h62 (by rw [stp' 62 h62, if_neg (by decide), if_pos rfl])
            · rw [if_neg h62, gp_eB2, if_pos rfl, show (61 : Int32) = nI 61 from rfl, gp_passE aN (by omega)]
              by_cases h61 : gp_hr t p' = some 61
              · rw [if_pos h61, gp_eB2, if_neg (show ¬ (1 : Int32) = 0 by decide), show (3 : Int32) = nI 3 from rfl]
                exact dig 3 61 (by omega) (by omega) h61 (by rw [stp' 61 h61, if_neg (by decide), if_neg (by decide), if_pos rfl])
              · rw [if_neg h61, gp_eB2, if_pos rfl, show (0 : Int32) = nI 0 from rfl, gp_r127a (show r < 8 by omega) (by omega)]
                refine fin _ p' s' (aN.fr ((gp_rL.w _ (by omega)).trans (gp_rL.w _ (by omega))) (by rw [gp_gn (by omega), gp_gn (by omega)]) (by rw [gp_gn (by omega), gp_gn (by omega)])) ((gp_rL.w _ (by omega)).trans (gp_rL.w _ (by omega))) (by rw [gp_gn (by omega), gp_gn (by omega)]) (Nat.le_refl _) g2 g3 g4 (by omega) hr' (fun j hj => rfl) (fun a b h => rfl) rfl rfl (fun a i h1 h2 h3 => ?_) ?_ ?_ ?_
                · rw [gp_gn (by omega), gp_gn (by omega)]
                · rw [gp_gn (by omega), gp_gs, hna.1]
                · rw [gp_gs]
                  exact hna.2.symm
                · refine ⟨by omega, by omega, Or.inr (Or.inr ⟨h3, by omega⟩), fun h => ?_, fun c hc hn => ?_⟩
                  · rw [stp' 59 h, if_neg (by decide), if_neg (by decide), if_neg (by decide), if_pos rfl]
                  · rw [stp' c hc, if_neg (fun h => h60 (by rw [hc, h])), if_neg (fun h => h62 (by rw [hc, h])), if_neg (fun h => h61 (by rw [hc, h])), if_neg hn]
      · have e9 : (gz_w M5 0 9 (nI (p + 1))).1 0 9 = nI (p + 1) := gp_gs _ _ _ _
        rw [show (58 : Int32) = nI 58 from rfl, gp_needE a5 (by omega), if_neg h58, gp_eB, gp_nfine e9 (by omega), gp_eB2, if_pos rfl]
        refine ⟨_, rfl, l5.trans (gp_rL.w0 _ (by omega)), by rw [gp_gn (by omega), t5], Or.inl (bad5 _ (p + 1) _ i1 a5.2.1 (fun c h => ?_) (by show 1 < 3; omega) e9)⟩
        show (if c = 58 then _ else none) = none
        rw [if_neg (fun hc => h58 (by rw [h, hc]))]
    · rw [if_neg hd] at one
      exact bad1 one (fun c' h hc => by rw [e] at h; cases h; exact hd hc)
end
