section
/-! rules told as a text: the reference's tables behind a rule's end -/
section
variable {M M' : gz_M} {t : List Nat} {p c : Nat} {s : gp_S}
theorem gp_tP_end {T TE : gp_T} {w : gp_P} {r : Nat} (h : gp_tP M T) (hr : T.1 = r) (e1 : TE.1 = r + 1) (eb : ∀ j, j < r → TE.2.2 1 j = T.2.2 1 j ∧ TE.2.2 2 j = T.2.2 2 j ∧ TE.2.2 3 j = T.2.2 3 j ∧ TE.2.1 j = T.2.1 j ∧ TE.2.2 6 j = T.2.2 6 j ∧ TE.2.2 5 j = T.2.2 5 j) (e7 : ∀ m, m < 4 → TE.2.2 7 m = T.2.2 7 m ∧ TE.2.2 (10 + m) = T.2.2 (10 + m) ∧ TE.2.2 (15 + m) = T.2.2 (15 + m) ∧ TE.2.2 8 m = if m = TE.2.2 1 r then T.2.2 8 m ||| w.1 else T.2.2 8 m) (m0 : ∀ a, 12 ≤ a → a ≤ 14 → M'.1 a = M.1 a) (m1 : ∀ a j, 5 ≤ a → a ≤ 11 → j < r → M'.1 a j = M.1 a j) (r1 : M'.1 5 r = nI (TE.2.2 1 r)) (r2 : M'.1 6 r = nI (TE.2.2 2 r)) (r3 : M'.1 7 r = nI (TE.2.2 3 r)) (r4 : M'.1 8 r = TE.2.1 r) (r5 : M'.1 9 r = nI (TE.2.2 6 r)) (r6 : M'.1 10 r = nI w.1) (r7 : M'.1 11 r = nI (TE.2.2 5 r)) : gp_tP M' TE := by
  obtain ⟨h1, ⟨bg, h2, h3⟩, h4⟩ := h
  refine ⟨fun j hj => ?_, ⟨fun j => if j = r then w.1 else bg j, fun j hj => ?_, fun m hm => ?_⟩, fun m hm => ?_⟩
  · rw [e1] at hj
    by_cases hjr : j = r
    · subst hjr
      exact ⟨r1, r2, r3, r4, r5, r7⟩
    · have hj : j < r := by omega
      obtain ⟨b1, b2, b3, b4, b5, b6⟩ := eb j hj
      rw [m1 5 j (by omega) (by omega) hj, m1 6 j (by omega) (by omega) hj, m1 7 j (by omega) (by omega) hj, m1 8 j (by omega) (by omega) hj, m1 9 j (by omega) (by omega) hj, m1 11 j (by omega) (by omega) hj, b1, b2, b3, b4, b5, b6]
      exact h1 j (by omega)
  · rw [e1] at hj
    dsimp only
    by_cases hjr : j = r
    · subst hjr
      rw [if_pos rfl]
      exact r6
    · rw [if_neg hjr, m1 10 j (by omega) (by omega) (by omega)]
      exact h2 j (by omega)
  · rw [(e7 m hm).2.2.2, e1, gp_orN, h3 m hm, hr]
    show _ = gp_orN (fun j => if TE.2.2 1 j = m then (if j = r then w.1 else bg j) else 0) r ||| (if TE.2.2 1 r = m then (if r = r then w.1 else bg r) else 0)
    rw [if_pos (rfl : r = r)]
    have e : gp_orN (fun j => if TE.2.2 1 j = m then (if j = r then w.1 else bg j) else 0) r = gp_orN (fun j => if T.2.2 1 j = m then bg j else 0) r := gp_orN_e (fun j hj => by
      rw [(eb j hj).1, if_neg (show ¬ j = r by omega)])
    rw [e]
    by_cases hmm : m = TE.2.2 1 r
    · rw [if_pos hmm, if_pos hmm.symm]
    · rw [if_neg hmm, if_neg (fun h => hmm h.symm), Nat.or_zero]
  · obtain ⟨a1, a2, a3, _⟩ := e7 m hm
    have hu : gp_u10 TE m = gp_u10 T m := by unfold gp_u10; rw [a1]
    rw [hu, m0 12 (by omega) (by omega), m0 13 (by omega) (by omega), m0 14 (by omega) (by omega), a1, a2, a3]
    exact h4 m hm
/-- links look at the row of modes alone -/
theorem gp_lnO_c {T T' : gp_T} (h1 : T'.1 = T.1) (hm : gp_md T' = gp_md T) (h : ∀ a b, a ≠ 3 → T'.2.2 a b = T.2.2 a b) (o q : Option gp_P) : ∀ a b, a ≠ 3 → (gp_lnO T' o q).2.2 a b = (gp_lnO T o q).2.2 a b := by
  intro a b ha
  unfold gp_lnO
  split
  · unfold gp_lnk
    dsimp only
    rw [hm, h a b ha]
  · exact h a b ha
/-- what a rule's end says when an act stands at it -/
theorem gp_eR_c {s s2 : gp_S} {r : Nat} {L : List (Option gp_P × Option gp_P)} {ch wh : Option gp_P} {w : gp_P} (hw : gp_wS s) (hw2 : gp_wS s2) (h3 : s.1 = 3) (h32 : 3 ≤ s2.1) (hr : s.2.1.1 = r) (e1 : s2.2.1.1 = r) (eD : ∀ j, j < r → s2.2.1.2.1 j = s.2.1.2.1 j) (eT : ∀ a b, ¬ (a = 3 ∧ b = r) → s2.2.1.2.2 a b = s.2.1.2.2 a b) (eL : s2.2.2.1 = s.2.2.1) (eo : s2.2.2.2 = s.2.2.2) (hL : s.2.2.1 = (ch, wh) :: L) (hq : gp_unO wh (gp_mgO ch s.2.2.2) = some w) (hT : gp_tP M (gp_eP s).2.1) (hc : gp_tc M (gp_eP s).2.1) (m0 : ∀ a, 12 ≤ a → a ≤ 14 → M'.1 a = M.1 a) (m1 : ∀ a j, 5 ≤ a → a ≤ 11 → j < r → M'.1 a j = M.1 a j) (m5 : M'.1 5 r = M.1 5 r) (m6 : M'.1 6 r = M.1 6 r) (r3 : M'.1 7 r = nI (s2.2.1.2.2 3 r)) (r4 : M'.1 8 r = s2.2.1.2.1 r) (r5 : M'.1 9 r = nI (if w.2.2 = true then 1 else 0)) (r6 : M'.1 10 r = nI w.1) (r7 : M'.1 11 r = nI w.2.1) : gp_tP M' (gp_eR s2) := by
  obtain ⟨ch1, wh1, L1, w1, a1, a2, a3, a4⟩ := gp_eR_f hw2 h32
  rw [eL, hL] at a1
  cases a1
  rw [eo, hq] at a2
  cases a2
  obtain ⟨hsm, _, _, ch2, wh2, L2, b1, b2, b3, b4, b5⟩ := gp_eP_f hw (by omega)
  rw [hL] at b1
  cases b1
  obtain ⟨hsm2, _, _, ch2, wh2, L2, c1, c2, c3, c4, c5⟩ := gp_eP_f hw2 (by omega)
  rw [eL, hL] at c1
  cases c1
  have hmd : gp_md s2.2.1 = gp_md s.2.1 := by
    unfold gp_md
    rw [e1, eT 1 r (by omega), hr]
  have hab : ∀ a b, ¬ (a = 3 ∧ b = r) → (gp_eP s2).2.1.2.2 a b = (gp_eP s).2.1.2.2 a b := fun a b h => by
    by_cases ha : a = 3
    · subst ha
      rw [hsm2.2.2.1 3 (by omega), hsm.2.2.1 3 (by omega)]
      exact eT 3 b h
    · rw [c5, b5, eo]
      exact gp_lnO_c (by rw [e1, hr]) hmd (fun a b ha => eT a b (by omega)) _ _ a b ha
  have hT1 : (gp_eP s).2.1.1 = r := by rw [hsm.1]; exact hr
  have o1 : (gp_eP s).2.1.2.2 1 r = gp_md s.2.1 := by rw [hsm.2.2.1 1 (by omega)]; unfold gp_md; rw [hr]
  have g : ∀ a b, ¬ (a = 3 ∧ b = r) → (a = 8 → b ≠ gp_md s.2.1) → (a = 5 ∨ a = 6 → b ≠ r) → (gp_eR s2).2.2 a b = (gp_eP s).2.1.2.2 a b := fun a b h h8 h56 => by
    rw [a4]
    dsimp only [gp_set]
    rw [hmd, e1, if_neg (by omega), if_neg (by omega), if_neg (fun h => h8 h.1 h.2), hab a b h]
  have hE1 : (gp_eR s2).2.2 1 r = gp_md s.2.1 := by rw [g 1 r (by omega) (by omega) (by omega), o1]
  refine gp_tP_end (w := w) hT hT1 (by rw [a4]; show s2.2.1.1 + 1 = r + 1; rw [e1]) (fun j hj => ?_) (fun m hm => ?_) m0 m1 ?_ ?_ ?_ ?_ ?_ r6 ?_
  · refine ⟨g 1 j (by omega) (by omega) (by omega), g 2 j (by omega) (by omega) (by omega), g 3 j (by omega) (by omega) (by omega), ?_, g 6 j (by omega) (by omega) (by omega), g 5 j (by omega) (by omega) (by omega)⟩
    rw [a4, hsm.2.1]
    exact eD j hj
  · refine ⟨g 7 m (by omega) (by omega) (by omega), funext fun y => g (10 + m) y (by omega) (by omega) (by omega), funext fun y => g (15 + m) y (by omega) (by omega) (by omega), ?_⟩
    rw [hE1]
    by_cases hmm : m = gp_md s.2.1
    · rw [if_pos hmm, a4]
      dsimp only [gp_set]
      rw [hmd, if_neg (by omega), if_neg (by omega), if_pos ⟨rfl, hmm⟩, eT 8 _ (by omega), hsm.2.2.1 8 (by omega), hmm]
    · rw [if_neg hmm]
      exact g 8 m (by omega) (fun _ => hmm) (by omega)
  · rw [hE1, m5, ← hT1, hc.1, hsm.md]
  · rw [g 2 r (by omega) (by omega) (by omega), m6]
    have := hc.2
    rw [hT1] at this
    exact this
  · have : (gp_eR s2).2.2 3 r = s2.2.1.2.2 3 r := by
      rw [a4]
      dsimp only [gp_set]
      rw [if_neg (by omega), if_neg (by omega), if_neg (by omega), hsm2.2.2.1 3 (by omega)]
    rw [this]
    exact r3
  · rw [a4]
    exact r4
  · have : (gp_eR s2).2.2 6 r = if w.2.2 = true then 1 else 0 := by
      rw [a4]
      dsimp only [gp_set]
      rw [if_pos ⟨rfl, e1.symm⟩]
    rw [this]
    exact r5
  · have : (gp_eR s2).2.2 5 r = w.2.1 := by
      rw [a4]
      dsimp only [gp_set]
      rw [if_neg (by omega), if_pos ⟨rfl, e1.symm⟩]
    rw [this]
    exact r7
end
end
section
/-! rules told as a text: the reference reads a rule -/
/-- a rule can end here -/
def gp_endS (t : List Nat) (p : Nat) (s : gp_S) : Prop := 3 ≤ s.1 ∧ s.1 ≠ 4 ∧ gp_mEnd t s ∧ (gp_hr t p = some 59 → gp_stp s 59 = gp_nxt s) ∧ ∀ c, gp_hr t p = some c → c ≠ 59 → gp_stp s c = none
def gp_rules1 (M : gz_M) (t : List Nat) (p : Nat) (s : gp_S) : Prop := gp_at M t p ∧ gp_wS s ∧ gp_itr t p 0 gp_s0 = some s ∧ (∀ m, s.2.1.2.2 7 m ≤ p) ∧ gp_tP M (gp_eR s) ∧ gp_endS t p s
section
variable {M M' N : gz_M} {t : List Nat} {p q c r a : Nat} {s : gp_S}
theorem gp_rF.rL (h : gp_rF M M') (e10 : M'.1 0 10 = M.1 0 10) : gp_rL M M' := ⟨h.1, fun c h1 h2 => h.2.1 c h1 (by omega) (by omega) (by omega) (by omega), fun i hi => h.2.2 i (by omega) (by omega) (by omega)⟩
theorem gp_r127a (hr : r < 8) (ha : a ≤ 1) (N : gz_M) : f12_readRule_127 (nI r) (nI a) (nI r) N = some (gz_w (gz_w N 7 r (nI a)) 8 r (-1)) := by
  unfold f12_readRule_127
  rw [gp_ckb hr (by omega), gp_eL, gp_ckb hr (by omega), nI_clamp (by omega), gp_gs, if_pos (show nI a ≤ (1 : Int32) from nI_le (b := 1) ha (by omega)), gp_ckb hr (by omega), gp_eL]
theorem gp_r127b (hr : r < 8) (ha : 2 ≤ a) (ha3 : a ≤ 3) (h : gp_at N t q) : f12_readRule_127 (nI r) (nI a) (nI r) N = match gp_hr t q with | none => some (gz_w (gz_w (gz_w N 7 r (nI a)) 0 9 (nI q)) 8 r 0) | some c => if 48 ≤ c ∧ c ≤ 51 then some (gz_w (gz_w (gz_w N 7 r (nI a)) 0 8 (nI (q + 1))) 8 r (nI (c - 48))) else some (gz_w (gz_w (gz_w N 7 r (nI a)) 0 9 (nI q)) 8 r 0) := by
  have h1 : gp_at (gz_w N 7 r (nI a)) t q := h.fr (gp_rL.w _ (by omega)) (gp_gn (by omega)) (gp_gn (by omega))
  have e := gp_oneE h1 (a := 48) (b := 3) (by omega) (by omega)
  unfold f12_readRule_127
  rw [gp_ckb hr (by omega), gp_eL, gp_ckb hr (by omega), nI_clamp (by omega), gp_gs, if_neg (show ¬ nI a ≤ (1 : Int32) from nI_ge (a := 1) ha (by omega)), show f12_oneOf 48 4 (gz_w N 7 r (nI a)) = _ from e]
  cases gp_hr t q with
  | none => dsimp only; rw [gp_eB2, gp_ckb hr (by omega), gp_eL]
  | some c =>
    dsimp only
    by_cases hc : 48 ≤ c ∧ c ≤ 51
    · rw [if_pos (show 48 ≤ c ∧ c ≤ 48 + 3 from hc), if_pos hc, gp_eB2, gp_ckb hr (by omega), gp_eL]
    · rw [if_neg (show ¬ (48 ≤ c ∧ c ≤ 48 + 3) from hc), if_neg hc, gp_eB2, gp_ckb hr (by omega), gp_eL]
theorem gp_narB (b : Bool) : vp_nar .boolean (nI (if b = true then 1 else 0)) = nI (if b = true then 1 else 0) := by cases b <;> decide
theorem gp_hrS (h : p < t.length) : gp_hr t p = some (t.getD p 0) := by unfold gp_hr; rw [if_pos h]
theorem gp_hrN (h : gp_hr t p = none) (hp : p ≤ t.length) : p = t.length := by
  unfold gp_hr at h
  split at h
  · cases h
  · omega
theorem gp_rdRule (ha : gp_at M t p) (hw : gp_wS s) (hi : gp_itr t p 0 gp_s0 = some s) (hu : ∀ m, s.2.1.2.2 7 m ≤ p) (h0 : s.1 = 0) (hT : gp_tP M s.2.1) (hr : s.2.1.1 = r) (hne : t.length ≠ 0) : ∃ M', f12_readRule (nI r) M = some M' ∧ gp_rL M M' ∧ M'.1 0 10 = M.1 0 10 ∧ (gp_bad M' t ∨ ∃ p' s', gp_rules1 M' t p' s' ∧ p < p' ∧ s'.2.1.1 = r) := by
  have h80 := ha.1
  have hpl := ha.2.1
  have h7 : r ≤ 7 := by rw [← hr]; exact hw.1.2.2.1
  -- a fault ahead of the way
  have bad5 : ∀ M5 q s1, gp_itr t q 0 gp_s0 = some s1 → q ≤ t.length → (∀ c, gp_hr t q = some c → gp_stp s1 c = none) → s1.1 < 3 → M5.1 0 9 = nI q → gp_bad M5 t := fun M5 q s1 a1 a2 a3 a4 a5 => ⟨q, s1, a1, a2, fun h => a3 _ (gp_hrS h), fun _ hm => by rcases hm with h | h | h <;> omega, a5⟩
  have bad1 : f12_oneOf 48 4 M = some (0, gz_w M 0 9 (nI p)) → (∀ c, gp_hr t p = some c → ¬ (48 ≤ c ∧ c ≤ 51)) → ∃ M', f12_readRule (nI r) M = some M' ∧ gp_rL M M' ∧ M'.1 0 10 = M.1 0 10 ∧ (gp_bad M' t ∨ ∃ p' s', gp_rules1 M' t p' s' ∧ p < p' ∧ s'.2.1.1 = r) := fun e hc => by
    have e9 : (gz_w (gz_w M 0 9 (nI p)) 5 r 0).1 0 9 = nI p := by rw [gp_gn (by omega), gp_gs]
    unfold f12_readRule
    rw [e, gp_eB2, gp_ckb (show r < 8 by omega) (by omega), gp_eL, nI_clamp (by omega), gp_needN e9 (by omega), gp_eB, gp_nfine e9 (by omega), gp_eB2, if_pos rfl]
    refine ⟨_, rfl, (gp_rL.w0 _ (by omega)).trans (gp_rL.w _ (by omega)), by rw [gp_gn (by omega), gp_gn (by omega)], Or.inl (bad5 _ p s hi hpl (fun c h => ?_) (by omega) e9)⟩
    unfold gp_stp
    rw [if_pos h0, if_neg (hc c h)]
  have one := gp_oneE ha (a := 48) (b := 3) (by omega) (by omega)
  cases e : gp_hr t p with
  | none =>
    rw [e] at one
    exact bad1 one (fun c h => by rw [e] at h; cases h)
  | some c =>
    rw [e] at one
    dsimp only at one
    by_cases hd : 48 ≤ c ∧ c ≤ 48 + 3
    · rw [if_pos hd] at one
      obtain ⟨hc256, hpl1, htp⟩ := gp_hr_lt ha e
      have hst : gp_stp s (t.getD p 0) = some (gp_beg s c) := by
        rw [htp]
        unfold gp_stp
        rw [if_pos h0, if_pos (by omega)]
      have hc1 : t.getD p 0 < 256 := by rw [htp]; exact hc256
      have w1 := gp_stp_w hc1 hw hst
      have i1 := gp_itr_s hi hst
      have u1 := gp_good_u hw hc1 hst hu
      obtain ⟨M5, hM5⟩ : ∃ M5, M5 = gz_w (gz_w M 0 8 (nI (p + 1))) 5 r (nI (c - 48)) := ⟨_, rfl⟩
      have a5 : gp_at M5 t (p + 1) := by
        rw [hM5]
        exact (ha.nx hpl1).fr (gp_rL.w _ (by omega)) (gp_gn (by omega)) (gp_gn (by omega))
      have l5 : gp_rL M M5 := by rw [hM5]; exact (gp_rL.w0 _ (by omega)).trans (gp_rL.w _ (by omega))
      have t5 : M5.1 0 10 = M.1 0 10 := by rw [hM5, gp_gn (by omega), gp_gn (by omega)]
      have s0 : f12_readRule (nI r) M = gz_bd (f12_need 58 M5) fun M6 => gz_bd2 (f12_fine M6) fun v8 M9 => if v8 = 0 then (some M9) else (gz_ck (gz_inb (nI r) 8) <| gz_lt (gz_w M9 6 (nI r).toNatClampNeg 0) fun M13 => gz_lt (gz_w M13 0 24 0) fun M14 => gz_bd (f12_readWay 8 (nI r) M14) fun M15 => gz_bd2 (f12_fine M15) fun v17 M18 => if v17 = 0 then (some M18) else (gz_ck (gz_inb (nI r) 8) <| gz_lt (gz_w M18 9 (nI r).toNatClampNeg (vp_nar .boolean (M18.1 0 21))) fun M22 => gz_ck (gz_inb (nI r) 8) <| gz_lt (gz_w M22 10 (nI r).toNatClampNeg (M22.1 0 22)) fun M24 => gz_ck (gz_inb (nI r) 8) <| gz_lt (gz_w M24 11 (nI r).toNatClampNeg (M24.1 0 23)) fun M26 => gz_bd2 (f12_passes 60 M26) fun v27 M28 => if v27 = 0 then (gz_bd2 (f12_passes 62 M28) fun v31 M32 => if v31 = 0 then (gz_bd2 (f12_passes 61 M32) fun v35 M36 => if v35 = 0 then (f12_readRule_127 (nI r) 0 (nI r) M36) else (f12_readRule_127 (nI r) 3 (nI r) M36)) else (f12_readRule_127 (nI r) 2 (nI r) M32)) else (f12_readRule_127 (nI r) 1 (nI r) M28))) := by
        unfold f12_readRule
        rw [show f12_oneOf 48 4 M = _ from one, gp_eB2, gp_ckb (show r < 8 by omega) (by omega), gp_eL, nI_clamp (by omega), ← hM5]
      rw [s0]
      clear s0
      by_cases h58 : gp_hr t (p + 1) = some 58
      · obtain ⟨_, hpl2, htp2⟩ := gp_hr_lt a5 h58
        have hst2 : gp_stp (gp_beg s c) (t.getD (p + 1) 0) = some (2, (gp_beg s c).2.1, (gp_beg s c).2.2.1, (gp_beg s c).2.2.2) := by
          rw [htp2]
          rfl
        have hc2 : t.getD (p + 1) 0 < 256 := by rw [htp2]; decide
        have w2 := gp_stp_w hc2 w1 hst2
        have i2 := gp_itr_s i1 hst2
        have u2 := gp_good_u w1 hc2 hst2 u1
        obtain ⟨M14, hM14⟩ : ∃ M14, M14 = gz_w (gz_w (gz_w M5 0 8 (nI (p + 1 + 1))) 6 r 0) 0 24 0 := ⟨_, rfl⟩
        have l14 : gp_rL M5 M14 := by rw [hM14]; exact ((gp_rL.w0 _ (by omega)).trans (gp_rL.w _ (by omega))).trans (gp_rL.w0 _ (by omega))
        have a14 : gp_at M14 t (p + 1 + 1) := by
          rw [hM14]
          exact (a5.nx hpl2).fr ((gp_rL.w _ (by omega)).trans (gp_rL.w0 _ (by omega))) (by rw [gp_gn (by omega), gp_gn (by omega)]) (by rw [gp_gn (by omega), gp_gn (by omega)])
        have t14 : M14.1 0 10 = M.1 0 10 := by rw [hM14, gp_gn (by omega), gp_gn (by omega), gp_gn (by omega), t5]
        have n14 : ∀ a i, a ≠ 0 → ¬ (a = 5 ∧ i = r) → ¬ (a = 6 ∧ i = r) → M14.1 a i = M.1 a i := fun a i h1 h2 h3 => by
          rw [hM14, gp_gn (by omega), gp_gn (by omega), gp_gn (by omega), hM5, gp_gn (by omega), gp_gn (by omega)]
        have r5 : M14.1 5 r = nI (c - 48) := by rw [hM14, gp_gn (by omega), gp_gn (by omega), gp_gn (by omega), hM5, gp_gs]
        have r6 : M14.1 6 r = 0 := by rw [hM14, gp_gn (by omega), gp_gs]
        have bT : ∀ a b, ¬ (a = 1 ∧ b = r) → ¬ (a = 2 ∧ b = r) → ¬ (a = 3 ∧ b = r) → (gp_beg s c).2.1.2.2 a b = s.2.1.2.2 a b := fun a b h1 h2 h3 => by
          unfold gp_beg
          dsimp only [gp_set]
          rw [hr, if_neg h3, if_neg h2, if_neg h1]
        have b1 : (gp_beg s c).2.1.2.2 1 r = c - 48 := by
          unfold gp_beg
          dsimp only [gp_set]
          rw [hr, if_neg (by omega), if_neg (by omega), if_pos ⟨rfl, rfl⟩]
        have b2 : (gp_beg s c).2.1.2.2 2 r = 0 := by
          unfold gp_beg
          dsimp only [gp_set]
          rw [hr, if_neg (by omega), if_pos ⟨rfl, rfl⟩]
        have bD : ∀ j, j ≠ r → (gp_beg s c).2.1.2.1 j = s.2.1.2.1 j := fun j h => by
          unfold gp_beg
          dsimp only [gp_setD]
          rw [hr, if_neg h]
        have T14 : gp_tP M14 (gp_beg s c).2.1 := by
          obtain ⟨h1, ⟨bg, h2, h3⟩, h4⟩ := hT
          have hT1 : (gp_beg s c).2.1.1 = r := hr
          refine ⟨fun j hj => ?_, ⟨bg, fun j hj => ?_, fun m hm => ?_⟩, fun m hm => ?_⟩
          · have hj : j < r := by omega
            rw [n14 5 j (by omega) (by omega) (by omega), n14 6 j (by omega) (by omega) (by omega), n14 7 j (by omega) (by omega) (by omega), n14 8 j (by omega) (by omega) (by omega), n14 9 j (by omega) (by omega) (by omega), n14 11 j (by omega) (by omega) (by omega), bT 1 j (by omega) (by omega) (by omega), bT 2 j (by omega) (by omega) (by omega), bT 3 j (by omega) (by omega) (by omega), bT 5 j (by omega) (by omega) (by omega), bT 6 j (by omega) (by omega) (by omega), bD j (by omega)]
            exact h1 j (by omega)
          · rw [n14 10 j (by omega) (by omega) (by omega)]
            exact h2 j (by omega)
          · rw [bT 8 m (by omega) (by omega) (by omega), h3 m hm, hT1, hr]
            exact gp_orN_e (fun j hj => by rw [bT 1 j (by omega) (by omega) (by omega)])
          · have hu10 : gp_u10 (gp_beg s c).2.1 m = gp_u10 s.2.1 m := by unfold gp_u10; rw [bT 7 m (by omega) (by omega) (by omega)]
            rw [hu10, n14 12 m (by omega) (by omega) (by omega), bT 7 m (by omega) (by omega) (by omega)]
            refine ⟨(h4 m hm).1, fun x hx => ?_⟩
            obtain ⟨g1, k, g2, g3, g4⟩ := (h4 m hm).2 x hx
            refine ⟨by rw [n14 14 _ (by omega) (by omega) (by omega), bT (10 + m) x (by omega) (by omega) (by omega)]; exact g1, k, g2, by rw [n14 13 _ (by omega) (by omega) (by omega)]; exact g3, fun z hz => ?_⟩
            rw [bT (15 + m) z (by omega) (by omega) (by omega)]
            exact g4 z hz
        have c14 : gp_tc M14 (gp_beg s c).2.1 := by
          have hT1 : (gp_beg s c).2.1.1 = r := hr
          unfold gp_tc gp_md
          rw [hT1, b1, b2, r5, r6]
          exact ⟨rfl, rfl⟩
        have good14 : gp_good M14 t (p + 1 + 1) (2, (gp_beg s c).2.1, (gp_beg s c).2.2.1, (gp_beg s c).2.2.2) (gp_beg s c).2.1 := ⟨a14, w2, i2, u2, T14, c14, by rw [hM14, gp_gs]; rfl⟩
        obtain ⟨M15, e15, f15, d15⟩ := gp_way (t := t) (r := r) 8 0 rfl (by omega) (p + 1 + 1) _ M14 [] good14 rfl rfl rfl hr
        have t15 : M15.1 0 10 = M.1 0 10 := (f15.2.2 10 (by omega) (by omega) (by omega)).trans t14
        have l15 : gp_rL M M15 := (l5.trans l14).trans (f15.rL (f15.2.2 10 (by omega) (by omega) (by omega)))
        rw [show (58 : Int32) = nI 58 from rfl, gp_needE a5 (by omega), if_pos h58, gp_eB, gp_fineE (a5.nx hpl2), gp_eB2, if_neg (show ¬ (1 : Int32) = 0 by decide), gp_ckb (show r < 8 by omega) (by omega), nI_clamp (by omega), gp_eL, gp_eL, ← hM14, e15, gp_eB]
        rcases d15 with hb | ⟨p', s', w, ch, wh, ⟨g1, g2, g3, g4, g5, g6, g7⟩, h3, hL, hq, hp, hr', hlt, hsuf, hip, h124⟩
        · obtain ⟨z, z1, z2⟩ := hb.nf h80
          rw [gp_nfine z2 z1, gp_eB2, if_pos rfl]
          exact ⟨M15, rfl, l15, t15, Or.inl hb⟩
        · rw [gp_fineE g1, gp_eB2, if_neg (show ¬ (1 : Int32) = 0 by decide), gp_ckb (show r < 8 by omega) (by omega), gp_eL, gp_ckb (show r < 8 by omega) (by omega), gp_gn (by omega), gp_eL, gp_ckb (show r < 8 by omega) (by omega), gp_gn (by omega), gp_gn (by omega), gp_eL, hp.1, hp.2.1, hp.2.2, gp_narB]
          obtain ⟨N, hN⟩ : ∃ N, N = gz_w (gz_w (gz_w M15 9 r (nI (if w.2.2 = true then 1 else 0))) 10 r (nI w.1)) 11 r (nI w.2.1) := ⟨_, rfl⟩
          rw [← hN]
          have lN0 : gp_rL M15 N := by rw [hN]; exact ((gp_rL.w _ (by omega)).trans (gp_rL.w _ (by omega))).trans (gp_rL.w _ (by omega))
          have oN : ∀ i, N.1 0 i = M15.1 0 i := fun i => by rw [hN, gp_gn (by omega), gp_gn (by omega), gp_gn (by omega)]
          have aN : gp_at N t p' := g1.fr lN0 (oN 8) (oN 9)
          have lN := l15.trans lN0
          have tN : N.1 0 10 = M.1 0 10 := by rw [oN, t15]
          have nN : ∀ a i, ¬ (a = 9 ∧ i = r) → ¬ (a = 10 ∧ i = r) → ¬ (a = 11 ∧ i = r) → N.1 a i = M15.1 a i := fun a i h1 h2 h3 => by rw [hN, gp_gn (by omega), gp_gn (by omega), gp_gn (by omega)]
          have N9 : N.1 9 r = nI (if w.2.2 = true then 1 else 0) := by rw [hN, gp_gn (by omega), gp_gn (by omega), gp_gs]
          have N10 : N.1 10 r = nI w.1 := by rw [hN, gp_gn (by omega), gp_gs]
          have N11 : N.1 11 r = nI w.2.1 := by rw [hN, gp_gs]
          have hna := gp_na_at g1 g3 (by omega) (by omega)
          rw [hr'] at hna
          have hlen : s'.2.2.1.length = 1 := by rw [hL]; rfl
          have hsf : ∀ c, gp_hr t p' = some c → ¬ (c = 42 ∨ c = 43 ∨ c = 63) := fun c hc h => hsuf (by rcases h with rfl | rfl | rfl <;> simp [hc])
          have hisp : ∀ c, gp_hr t p' = some c → ¬ (gp_isL c = true ∨ c = 40) := fun c hc h => by
            rw [hc] at hip
            unfold gp_isP at hip
            rcases h with h | h
            · simp [h] at hip
            · simp [h] at hip
          -- the machine at s'
          have stp' : ∀ c, gp_hr t p' = some c → gp_stp s' c = if c = 60 then some (gp_act1 s' 5 1) else if c = 62 then some (gp_act1 s' 4 2) else if c = 61 then some (gp_act1 s' 4 3) else if c = 59 then gp_nxt s' else none := fun c hc => by
            unfold gp_stp
            rw [if_neg (by omega), if_neg (by omega), if_neg (by omega), if_pos h3, if_neg (hisp c hc), if_neg (hsf c hc), if_neg (fun h => h124 (by rw [hc, h]))]
            by_cases h41 : c = 41
            · rw [if_pos h41, if_pos (by omega), if_neg (by omega), if_neg (by omega), if_neg (by omega), if_neg (by omega)]
            · rw [if_neg h41, if_pos (by omega)]
          -- an end of the rule
          have fin : ∀ N' p2 s2, gp_at N' t p2 → gp_rL N N' → N'.1 0 10 = N.1 0 10 → p' ≤ p2 → gp_wS s2 → gp_itr t p2 0 gp_s0 = some s2 → (∀ m, s2.2.1.2.2 7 m ≤ p2) → 3 ≤ s2.1 → s2.2.1.1 = r → (∀ j, j < r → s2.2.1.2.1 j = s'.2.1.2.1 j) → (∀ a b, ¬ (a = 3 ∧ b = r) → s2.2.1.2.2 a b = s'.2.1.2.2 a b) → s2.2.2.1 = s'.2.2.1 → s2.2.2.2 = s'.2.2.2 → (∀ a i, a ≠ 0 → ¬ (a = 7 ∧ i = r) → ¬ (a = 8 ∧ i = r) → N'.1 a i = N.1 a i) → N'.1 7 r = nI (s2.2.1.2.2 3 r) → N'.1 8 r = s2.2.1.2.1 r → gp_endS t p2 s2 → ∃ M', some N' = some M' ∧ gp_rL M M' ∧ M'.1 0 10 = M.1 0 10 ∧ (gp_bad M' t ∨ ∃ p' s', gp_rules1 M' t p' s' ∧ p < p' ∧ s'.2.1.1 = r) := by
            intro N' p2 s2 q1 q2 q3 q4 q5 q6 q7 q8 q9 q10 q11 q12 q13 q14 q15 q16 q17
            refine ⟨N', rfl, lN.trans q2, q3.trans tN, Or.inr ⟨p2, s2, ⟨q1, q5, q6, q7, ?_, q17⟩, by omega, q9⟩⟩
            refine gp_eR_c g2 q5 h3 q8 hr' q9 q10 q11 q12 q13 hL hq g5 g6 (fun a h1 h2 => ?_) (fun a j h1 h2 h3 => ?_) ?_ ?_ q15 q16 ?_ ?_ ?_
            · funext i
              rw [q14 a i (by omega) (by omega) (by omega), nN a i (by omega) (by omega) (by omega)]
            · rw [q14 a j (by omega) (by omega) (by omega), nN a j (by omega) (by omega) (by omega)]
            · rw [q14 5 r (by omega) (by omega) (by omega), nN 5 r (by omega) (by omega) (by omega)]
            · rw [q14 6 r (by omega) (by omega) (by omega), nN 6 r (by omega) (by omega) (by omega)]
            · rw [q14 9 r (by omega) (by omega) (by omega), N9]
            · rw [q14 10 r (by omega) (by omega) (by omega), N10]
            · rw [q14 11 r (by omega) (by omega) (by omega), N11]
          -- an act with a digit
          have dig : ∀ a c1, 2 ≤ a → a ≤ 3 → gp_hr t p' = some c1 → gp_stp s' c1 = some (gp_act1 s' 4 a) → ∃ M', f12_readRule_127 (nI r) (nI a) (nI r) (gz_w N 0 8 (nI (p' + 1))) = some M' ∧ gp_rL M M' ∧ M'.1 0 10 = M.1 0 10 ∧ (gp_bad M' t ∨ ∃ p' s', gp_rules1 M' t p' s' ∧ p < p' ∧ s'.2.1.1 = r) := by
            intro a c1 a2 a3 hc1 hs1
            obtain ⟨hcc, hpl', htp'⟩ := gp_hr_lt g1 hc1
            have hc1' : t.getD p' 0 < 256 := by rw [htp']; exact hcc
            rw [← htp'] at hs1
            have w3 := gp_stp_w hc1' g2 hs1
            have i3 := gp_itr_s g3 hs1
            have u3 := gp_good_u g2 hc1' hs1 g4
            have aQ : gp_at (gz_w N 0 8 (nI (p' + 1))) t (p' + 1) := aN.nx hpl'
            have no : gp_rL N (gz_w (gz_w (gz_w (gz_w N 0 8 (nI (p' + 1))) 7 r (nI a)) 0 9 (nI (p' + 1))) 8 r 0) := (((gp_rL.w0 _ (by omega)).trans (gp_rL.w _ (by omega))).trans (gp_rL.w0 _ (by omega))).trans (gp_rL.w _ (by omega))
            have badd : (∀ c, gp_hr t (p' + 1) = some c → ¬ (48 ≤ c ∧ c ≤ 51)) → ∃ M', some (gz_w (gz_w (gz_w (gz_w N 0 8 (nI (p' + 1))) 7 r (nI a)) 0 9 (nI (p' + 1))) 8 r 0) = some M' ∧ gp_rL M M' ∧ M'.1 0 10 = M.1 0 10 ∧ (gp_bad M' t ∨ ∃ p' s', gp_rules1 M' t p' s' ∧ p < p' ∧ s'.2.1.1 = r) := fun hn => by
              refine ⟨_, rfl, lN.trans no, by rw [gp_gn (by omega), gp_gn (by omega), gp_gn (by omega), gp_gn (by omega), tN], Or.inl ⟨p' + 1, _, i3, aQ.2.1, fun h => ?_, fun _ hm => ?_, by rw [gp_gn (by omega), gp_gs]⟩⟩
              · have := hn _ (gp_hrS h)
                show (if 48 ≤ _ ∧ _ ≤ 51 then _ else _) = _
                rw [if_neg this]
              · rcases hm with h | h | h
                · omega
                · have h : (4 : Nat) = 5 := h
                  omega
                · have h : (4 : Nat) = 3 := h.1
                  omega
            have e127 := gp_r127b (a := a) (show r < 8 by omega) a2 a3 aQ
            rw [e127]
            cases ed : gp_hr t (p' + 1) with
            | none => exact badd (fun c h => by rw [ed] at h; cases h)
            | some d =>
              dsimp only
              by_cases hd : 48 ≤ d ∧ d ≤ 51
              · rw [if_pos hd]
                obtain ⟨hdd, hpl2, htp2⟩ := gp_hr_lt aQ ed
                have hd' : t.getD (p' + 1) 0 < 256 := by rw [htp2]; exact hdd
                have hs2 : gp_stp (gp_act1 s' 4 a) (t.getD (p' + 1) 0) = some (5, (s'.2.1.1, gp_setD s'.2.1.2.1 s'.2.1.1 (nI (d - 48)), gp_set s'.2.1.2.2 3 s'.2.1.1 a), s'.2.2.1, s'.2.2.2) := by
                  rw [htp2]
                  show (if 48 ≤ d ∧ d ≤ 51 then _ else _) = _
                  rw [if_pos hd]
                  rfl
                refine fin _ (p' + 1 + 1) _ ?_ ((((gp_rL.w0 _ (by omega)).trans (gp_rL.w _ (by omega))).trans (gp_rL.w0 _ (by omega))).trans (gp_rL.w _ (by omega))) (by rw [gp_gn (by omega), gp_gn (by omega), gp_gn (by omega), gp_gn (by omega)]) (by omega) (gp_stp_w hd' w3 hs2) (gp_itr_s i3 hs2) (gp_good_u w3 hd' hs2 u3) (by show 3 ≤ 5; omega) hr' (fun j hj => ?_) (fun a b h => ?_) rfl rfl (fun a i h1 h2 h3 => ?_) ?_ ?_ ?_
                · refine (((aN.nx hpl').fr (M' := gz_w (gz_w N 0 8 (nI (p' + 1))) 7 r (nI a)) (gp_rL.w _ (by omega)) (gp_gn (by omega)) (gp_gn (by omega))).nx hpl2).fr (gp_rL.w _ (by omega)) (gp_gn (by omega)) (gp_gn (by omega))
                · show gp_setD s'.2.1.2.1 s'.2.1.1 _ j = _
                  unfold gp_setD
                  rw [if_neg (by omega)]
                · show gp_set s'.2.1.2.2 3 s'.2.1.1 _ a b = _
                  unfold gp_set
                  rw [hr', if_neg h]
                · rw [gp_gn (by omega), gp_gn (by omega), gp_gn (by omega), gp_gn (by omega)]
                · rw [gp_gn (by omega), gp_gn (by omega), gp_gs]
                  show _ = nI (gp_set s'.2.1.2.2 3 s'.2.1.1 _ 3 r)
                  unfold gp_set
                  rw [hr', if_pos ⟨rfl, rfl⟩]
                · rw [gp_gs]
                  show _ = gp_setD s'.2.1.2.1 s'.2.1.1 _ r
                  unfold gp_setD
                  rw [hr', if_pos rfl]
                · refine ⟨by show 3 ≤ 5; omega, by show (5 : Nat) ≠ 4; omega, Or.inr (Or.inl rfl), fun _ => rfl, fun c hc hn => ?_⟩
                  show (if c = 59 then _ else none) = none
                  rw [if_neg hn]
              · rw [if_neg hd]
                exact badd (fun c h => by rw [ed] at h; cases h; exact hd)
          rw [show (60 : Int32) = nI 60 from rfl, gp_passE aN (by omega)]
          by_cases h60 : gp_hr t p' = some 60
          · rw [if_pos h60, gp_eB2, if_neg (show ¬ (1 : Int32) = 0 by decide), show (1 : Int32) = nI 1 from rfl, gp_r127a (show r < 8 by omega) (by omega)]
            obtain ⟨hcc, hpl', htp'⟩ := gp_hr_lt g1 h60
            have hc1' : t.getD p' 0 < 256 := by rw [htp']; exact hcc
            have hs1 : gp_stp s' (t.getD p' 0) = some (gp_act1 s' 5 1) := by rw [htp', stp' 60 h60, if_pos rfl]
            refine fin _ (p' + 1) _ ?_ (((gp_rL.w0 _ (by omega)).trans (gp_rL.w _ (by omega))).trans (gp_rL.w _ (by omega))) (by rw [gp_gn (by omega), gp_gn (by omega), gp_gn (by omega)]) (by omega) (gp_stp_w hc1' g2 hs1) (gp_itr_s g3 hs1) (gp_good_u g2 hc1' hs1 g4) (by show 3 ≤ 5; omega) hr' (fun j hj => rfl) (fun a b h => ?_) rfl rfl (fun a i h1 h2 h3 => ?_) ?_ ?_ ?_
            · exact (aN.nx hpl').fr ((gp_rL.w _ (by omega)).trans (gp_rL.w _ (by omega))) (by rw [gp_gn (by omega), gp_gn (by omega)]) (by rw [gp_gn (by omega), gp_gn (by omega)])
            · show gp_set s'.2.1.2.2 3 s'.2.1.1 _ a b = _
              unfold gp_set
              rw [hr', if_neg h]
            · rw [gp_gn (by omega), gp_gn (by omega), gp_gn (by omega)]
            · rw [gp_gn (by omega), gp_gs]
              show _ = nI (gp_set s'.2.1.2.2 3 s'.2.1.1 _ 3 r)
              unfold gp_set
              rw [hr', if_pos ⟨rfl, rfl⟩]
            · rw [gp_gs]
              exact hna.2.symm
            · refine ⟨by show 3 ≤ 5; omega, by show (5 : Nat) ≠ 4; omega, Or.inr (Or.inl rfl), fun _ => rfl, fun c hc hn => ?_⟩
              show (if c = 59 then _ else none) = none
              rw [if_neg hn]
          · rw [if_neg h60, gp_eB2, if_pos rfl, show (62 : Int32) = nI 62 from rfl, gp_passE aN (by omega)]
            by_cases h62 : gp_hr t p' = some 62
            · rw [if_pos h62, gp_eB2, if_neg (show ¬ (1 : Int32) = 0 by decide), show (2 : Int32) = nI 2 from rfl]
              exact dig 2 62 (by omega) (by omega) h62 (by rw [stp' 62 h62, if_neg (by decide), if_pos rfl])
            · rw [if_neg h62, gp_eB2, if_pos rfl, show (61 : Int32) = nI 61 from rfl, gp_passE aN (by omega)]
              by_cases h61 : gp_hr t p' = some 61
              · rw [if_pos h61, gp_eB2, if_neg (show ¬ (1 : Int32) = 0 by decide), show (3 : Int32) = nI 3 from rfl]
                exact dig 3 61 (by omega) (by omega) h61 (by rw [stp' 61 h61, if_neg (by decide), if_neg (by decide), if_pos rfl])
              · rw [if_neg h61, gp_eB2, if_pos rfl, show (0 : Int32) = nI 0 from rfl, gp_r127a (show r < 8 by omega) (by omega)]
                refine fin _ p' s' (aN.fr ((gp_rL.w _ (by omega)).trans (gp_rL.w _ (by omega))) (by rw [gp_gn (by omega), gp_gn (by omega)]) (by rw [gp_gn (by omega), gp_gn (by omega)])) ((gp_rL.w _ (by omega)).trans (gp_rL.w _ (by omega))) (by rw [gp_gn (by omega), gp_gn (by omega)]) (Nat.le_refl _) g2 g3 g4 (by omega) hr' (fun j hj => rfl) (fun a b h => rfl) rfl rfl (fun a i h1 h2 h3 => ?_) ?_ ?_ ?_
                · rw [gp_gn (by omega), gp_gn (by omega)]
                · rw [gp_gn (by omega), gp_gs, hna.1]
                · rw [gp_gs]
                  exact hna.2.symm
                · refine ⟨by omega, by omega, Or.inr (Or.inr ⟨h3, by omega⟩), fun h => ?_, fun c hc hn => ?_⟩
                  · rw [stp' 59 h, if_neg (by decide), if_neg (by decide), if_neg (by decide), if_pos rfl]
                  · rw [stp' c hc, if_neg (fun h => h60 (by rw [hc, h])), if_neg (fun h => h62 (by rw [hc, h])), if_neg (fun h => h61 (by rw [hc, h])), if_neg hn]
      · have e9 : (gz_w M5 0 9 (nI (p + 1))).1 0 9 = nI (p + 1) := gp_gs _ _ _ _
        rw [show (58 : Int32) = nI 58 from rfl, gp_needE a5 (by omega), if_neg h58, gp_eB, gp_nfine e9 (by omega), gp_eB2, if_pos rfl]
        refine ⟨_, rfl, l5.trans (gp_rL.w0 _ (by omega)), by rw [gp_gn (by omega), t5], Or.inl (bad5 _ (p + 1) _ i1 a5.2.1 (fun c h => ?_) (by show 1 < 3; omega) e9)⟩
        show (if c = 58 then _ else none) = none
        rw [if_neg (fun hc => h58 (by rw [h, hc]))]
    · rw [if_neg hd] at one
      exact bad1 one (fun c' h hc => by rw [e] at h; cases h; exact hd hc)
end
end
section
/-! rules told as a text: the reference reads rules -/
section
variable {M M' N : gz_M} {t : List Nat} {p q c r a : Nat} {s : gp_S}
theorem gp_b0 : gz_b01 0 = true := by decide
theorem gp_b1 : gz_b01 1 = true := by decide
theorem gp_wrBad (h : gp_bad M t) (h80 : t.length ≤ 80) : f12_readRules_126 M = some (0, M) := by
  obtain ⟨z, z1, z2⟩ := h.nf h80
  have e19 : f12_wasRight_19 M = some (0, M) := by
    unfold f12_wasRight_19
    rw [gp_nfine z2 z1, gp_eB2, gp_b0, gp_eC]
  have e : f12_wasRight M = some (0, M) := by
    unfold f12_wasRight
    split
    · exact e19
    · rw [gp_faultN z2 z1, gp_eB, e19]
  unfold f12_readRules_126
  rw [e, gp_eB2, gp_b0, gp_eC]
theorem gp_wrE (h : gp_at M t p) : f12_wasRight M = if p = t.length then some (1, M) else some (0, gz_w M 0 9 (nI p)) := by
  have h80 := h.1
  have hp := h.2.1
  unfold f12_wasRight f12_wasRight_19
  rw [h.2.2.1, h.2.2.2.1]
  by_cases e : p = t.length
  · rw [if_pos (nI_le (by omega) (by omega)), if_pos e, gp_fineE h, gp_eB2, gp_b1, gp_eC]
  · have := gp_faultE h
    rw [h.2.2.2.1] at this
    rw [if_neg (nI_ge (by omega) (by omega)), if_neg e, this, gp_eB, gp_nfine (gp_gs _ _ _ _) (by omega), gp_eB2, gp_b0, gp_eC]
/-- what readRules leaves -/
def gp_rdR (M M' : gz_M) (t : List Nat) (v : Int32) : Prop := gp_rL M M' ∧ ((v = 0 ∧ gp_bad M' t) ∨ (v = 1 ∧ gp_at M' t t.length ∧ M'.1 0 10 = nI (gp_tab t).1 ∧ gp_tP M' (gp_tab t) ∧ ∃ s, gp_itr t t.length 0 gp_s0 = some s ∧ gp_mEnd t s ∧ (gp_tab t).2.2 7 = s.2.1.2.2 7 ∧ ∀ m, s.2.1.2.2 7 m ≤ 80))
theorem gp_c88 (c38 : Int32 → gz_M → Option (Int32 × gz_M)) : f12_readRules_88 c38 0 M = c38 0 M := by
  unfold f12_readRules_88
  rw [if_pos rfl]
theorem gp_n38 {n : Nat} (hn : 0 < n) (N' : gz_M) : f12_readRules_38 n 0 N' = f12_readRules_126 N' := by
  obtain ⟨k, rfl⟩ : ∃ j, n = j + 1 := ⟨n - 1, by omega⟩
  rw [f12_readRules_38, if_pos rfl]
theorem gp_rd38 (hne : t.length ≠ 0) : ∀ (n p : Nat) (s : gp_S) (M : gz_M), t.length + 1 < p + n → gp_at M t p → gp_wS s → gp_itr t p 0 gp_s0 = some s → (∀ m, s.2.1.2.2 7 m ≤ p) → s.1 = 0 → gp_tP M s.2.1 → M.1 0 10 = nI s.2.1.1 → ∃ v M', f12_readRules_38 n 1 M = some (v, M') ∧ gp_rdR M M' t v := by
  intro n
  induction n with
  | zero =>
    intro p s M hn ha
    have := ha.2.1
    omega
  | succ n ih =>
    intro p s M hn ha hw hi hu h0 hT h10
    have h80 := ha.1
    have h7 := hw.1.2.2.1
    have hn0 : 0 < n := by have := ha.2.1; omega
    obtain ⟨N, e1, e2, e3, e4⟩ := gp_rdRule ha hw hi hu h0 hT rfl hne
    rw [f12_readRules_38, if_neg (show ¬ (1 : Int32) = 0 by decide), gp_fineE ha, gp_eB2, if_neg (show ¬ (1 : Int32) = 0 by decide), h10, e1, gp_eB, e3, h10, nI_1, gp_eL]
    obtain ⟨K, hK⟩ : ∃ K, K = gz_w N 0 10 (nI (s.2.1.1 + 1)) := ⟨_, rfl⟩
    rw [← hK]
    have l10 : gp_rL M K := by rw [hK]; exact e2.trans (gp_rL.w0 _ (by omega))
    rcases e4 with hb | ⟨p', s', ⟨b1, b2, b3, b4, b5, b6⟩, hlt, hr'⟩
    · have hb' : gp_bad K t := by rw [hK]; exact hb.w (by omega)
      obtain ⟨z, z1, z2⟩ := hb'.nf h80
      rw [gp_nfine z2 z1, gp_eB2, if_pos rfl, gp_c88, gp_n38 hn0, gp_wrBad hb' h80]
      exact ⟨0, K, rfl, l10, Or.inl ⟨rfl, hb'⟩⟩
    · obtain ⟨d1, d2, d3, d4, d5⟩ := b6
      have aK : gp_at K t p' := by rw [hK]; exact b1.fr (gp_rL.w0 _ (by omega)) (gp_gn (by omega)) (gp_gn (by omega))
      have cK : ∀ a, a ≠ 0 → K.1 a = N.1 a := fun a h => by rw [hK, gp_wc _ h]
      have K10 : K.1 0 10 = nI (s.2.1.1 + 1) := by rw [hK, gp_gs]
      have eR1 : (gp_eR s').1 = s.2.1.1 + 1 := by rw [gp_eR_1, hr']
      have TK : gp_tP K (gp_eR s') := b5.fr (fun a h1 h2 => cK a (by omega))
      rw [gp_fineE aK, gp_eB2, if_neg (show ¬ (1 : Int32) = 0 by decide), gp_hereE aK, gp_eB2]
      by_cases h59 : gp_hr t p' = some 59
      · obtain ⟨_, hpl', htp'⟩ := gp_hr_lt aK h59
        have hst : gp_stp s' (t.getD p' 0) = gp_nxt s' := by rw [htp', d4 h59]
        have hc' : t.getD p' 0 < 256 := by rw [htp']; decide
        rw [if_pos (show gp_o (gp_hr t p') = (59 : Int32) from by rw [h59]; rfl)]
        unfold f12_readRules_88
        rw [if_neg (show ¬ (1 : Int32) = 0 by decide), K10, gp_faultE aK, aK.2.2.2.1, nI_1, gp_eB, gp_eL, gp_eL]
        by_cases h8 : s.2.1.1 + 1 = 8
        · rw [if_pos (show nI (s.2.1.1 + 1) = (8 : Int32) from by rw [h8]; rfl), gp_gn (by omega), aK.2.2.2.1, nI_1]
          have hb' : gp_bad (gz_w (gz_w K 0 9 (nI p')) 0 8 (nI (p' + 1))) t := ⟨p', s', b3, by omega, fun _ => by rw [hst]; unfold gp_nxt; rw [hr', if_neg (by omega)], fun h => by omega, by rw [gp_gn (by omega), gp_gs]⟩
          obtain ⟨z, z1, z2⟩ := hb'.nf h80
          obtain ⟨k, rfl⟩ : ∃ k, n = k + 1 := ⟨n - 1, by omega⟩
          rw [f12_readRules_38, if_neg (show ¬ (1 : Int32) = 0 by decide), gp_nfine z2 z1, gp_eB2, if_pos rfl, gp_wrBad hb' h80]
          exact ⟨0, _, rfl, (l10.trans (gp_rL.w0 _ (by omega))).trans (gp_rL.w0 _ (by omega)), Or.inl ⟨rfl, hb'⟩⟩
        · rw [if_neg (show ¬ nI (s.2.1.1 + 1) = (8 : Int32) from fun h => h8 ((nI_eq (b := 8) (by omega) (by omega)).mp h))]
          have hn : gp_nxt s' = some (0, gp_eR s', [], none) := by
            unfold gp_nxt
            rw [hr', if_pos (by omega)]
          rw [hn] at hst
          obtain ⟨v, M', f1, f2, f3⟩ := ih (p' + 1) (0, gp_eR s', [], none) (gz_w K 0 8 (nI (p' + 1))) (by omega) (aK.nx hpl') (gp_stp_w hc' b2 hst) (gp_itr_s b3 hst) (gp_good_u b2 hc' hst b4) rfl (TK.fr (fun a h1 h2 => gp_wc _ (by omega))) (by rw [gp_gn (by omega), K10]; show _ = nI (gp_eR s').1; rw [eR1])
          exact ⟨v, M', f1, (l10.trans (gp_rL.w0 _ (by omega))).trans f2, f3⟩
      · rw [if_neg (show ¬ gp_o (gp_hr t p') = (59 : Int32) from fun h => h59 ((gp_oEq (fun c hc => (gp_hr_lt aK hc).1) (n := 59) (by omega)).mp h)), gp_c88, gp_n38 hn0]
        unfold f12_readRules_126
        rw [gp_wrE aK]
        by_cases hpe : p' = t.length
        · rw [if_pos hpe, gp_eB2, gp_b1, gp_eC]
          have htab : gp_tab t = gp_eR s' := by
            unfold gp_tab
            rw [hpe] at b3
            rw [b3]
            dsimp only
            rw [if_neg hne]
          refine ⟨1, K, rfl, l10, Or.inr ⟨rfl, by rw [← hpe]; exact aK, by rw [htab, eR1, K10], by rw [htab]; exact TK, s', by rw [← hpe]; exact b3, d3, by rw [htab]; exact (gp_eR_w b2 d1 d2).2, fun m => by have := b4 m; omega⟩⟩
        · rw [if_neg hpe, gp_eB2, gp_b0, gp_eC]
          have hp' := aK.2.1
          refine ⟨0, _, rfl, l10.trans (gp_rL.w0 _ (by omega)), Or.inl ⟨rfl, p', s', b3, hp', fun h => d5 _ (gp_hrS h) (fun h' => h59 (by rw [gp_hrS h, h'])), fun h => absurd h hpe, gp_gs _ _ _ _⟩⟩
theorem gp_rdRules (ha : gp_at M t 0) : ∃ v M', f12_readRules M = some (v, M') ∧ gp_rdR M M' t v := by
  have h80 := ha.1
  have st : ∀ (m n : Nat) (N : gz_M), m < 4 → f12_readRules_7 (n + 1) (nI m) N = f12_readRules_7 n (nI (m + 1)) (gz_w N 12 m 0) := fun m n N hm => by
    rw [f12_readRules_7, if_neg (show ¬ (4 : Int32) ≤ nI m from nI_ge (b := 4) (by omega) (by omega)), gp_ckb hm (by omega), nI_clamp (by omega), gp_eL, gp_eL, nI_1]
  obtain ⟨K, hK⟩ : ∃ K, K = gz_w (gz_w (gz_w (gz_w (gz_w M 0 10 0) 12 0 0) 12 1 0) 12 2 0) 12 3 0 := ⟨_, rfl⟩
  have e : f12_readRules M = if nI t.length ≤ 0 then f12_readRules_38 gz_FU 0 K else f12_readRules_38 gz_FU 1 K := by
    unfold f12_readRules
    rw [gp_eL, show (0 : Int32) = nI 0 from rfl, show gz_FU = 999995 + 1 + 1 + 1 + 1 + 1 from rfl, st 0 _ _ (by omega), st 1 _ _ (by omega), st 2 _ _ (by omega), st 3 _ _ (by omega), f12_readRules_7, if_pos (by decide), show gz_w (gz_w (gz_w (gz_w (gz_w M 0 10 (nI 0)) 12 0 0) 12 1 0) 12 2 0) 12 3 0 = K from hK.symm]
    have : K.1 0 7 = nI t.length := by rw [hK, gp_gn (by omega), gp_gn (by omega), gp_gn (by omega), gp_gn (by omega), gp_gn (by omega)]; exact ha.2.2.1
    rw [this]
    rfl
  have lK : gp_rL M K := by rw [hK]; exact ((((gp_rL.w0 _ (by omega)).trans (gp_rL.w _ (by omega))).trans (gp_rL.w _ (by omega))).trans (gp_rL.w _ (by omega))).trans (gp_rL.w _ (by omega))
  have aK : gp_at K t 0 := ha.fr lK (by rw [hK, gp_gn (by omega), gp_gn (by omega), gp_gn (by omega), gp_gn (by omega), gp_gn (by omega)]) (by rw [hK, gp_gn (by omega), gp_gn (by omega), gp_gn (by omega), gp_gn (by omega), gp_gn (by omega)])
  have K10 : K.1 0 10 = nI 0 := by rw [hK, gp_gn (by omega), gp_gn (by omega), gp_gn (by omega), gp_gn (by omega), gp_gs]; rfl
  have K12 : ∀ m, m < 4 → K.1 12 m = nI 0 := fun m hm => by
    obtain h | h | h | h : m = 0 ∨ m = 1 ∨ m = 2 ∨ m = 3 := by omega
    · rw [h, hK, gp_gn (by omega), gp_gn (by omega), gp_gn (by omega), gp_gs]; rfl
    · rw [h, hK, gp_gn (by omega), gp_gn (by omega), gp_gs]; rfl
    · rw [h, hK, gp_gn (by omega), gp_gs]; rfl
    · rw [h, hK, gp_gs]; rfl
  have TK : gp_tP K gp_s0.2.1 := by
    refine ⟨fun j hj => absurd hj (by show ¬ j < 0; omega), ⟨fun _ => 0, fun j hj => absurd hj (by show ¬ j < 0; omega), fun m hm => rfl⟩, fun m hm => ⟨K12 m hm, fun x hx => ?_⟩⟩
    have : gp_u10 gp_s0.2.1 m = 0 := rfl
    omega
  rw [e]
  by_cases h0 : t.length = 0
  · rw [if_pos (by rw [h0]; decide), gp_n38 (by unfold gz_FU; omega)]
    unfold f12_readRules_126
    rw [gp_wrE aK, if_pos h0.symm, gp_eB2, gp_b1, gp_eC]
    have htab : gp_tab t = gp_s0.2.1 := by
      unfold gp_tab
      rw [h0]
      rfl
    refine ⟨1, K, rfl, lK, Or.inr ⟨rfl, by rw [h0]; exact aK, by rw [htab, K10]; rfl, by rw [htab]; exact TK, gp_s0, by rw [h0]; rfl, Or.inl h0, by rw [htab], fun m => Nat.zero_le _⟩⟩
  · rw [if_neg (show ¬ nI t.length ≤ 0 from nI_ge (a := 0) (by omega) (by omega))]
    obtain ⟨v, M', f1, f2, f3⟩ := gp_rd38 h0 gz_FU 0 gp_s0 K (by unfold gz_FU; omega) aK gp_w0 rfl (fun m => Nat.zero_le _) rfl TK K10
    exact ⟨v, M', f1, lK.trans f2, f3⟩
/-- letters 10 at most: the tables stand -/
theorem gp_tP.tR {T : gp_T} (h : gp_tP M T) (h10 : M.1 0 10 = nI T.1) (hu : ∀ m, m < 4 → T.2.2 7 m ≤ 10) : gp_tR M T := by
  obtain ⟨h1, h2, h3⟩ := h
  refine ⟨h10, h1, h2, fun m hm => ⟨(h3 m hm).1, fun x hx => (h3 m hm).2 x ?_⟩⟩
  unfold gp_u10
  have := hu m hm
  omega
end
end
section
/-! loops that fill a row -/
def gp_fl (M : gz_M) (c o N : Nat) (v : Nat → Int32) : gz_M := (fun a i => if a = c ∧ o ≤ i ∧ i < o + N then v (i - o) else M.1 a i, M.2)
section
variable {M : gz_M} {c o N : Nat} {v : Nat → Int32}
theorem gp_fl_0 : gp_fl M c o 0 v = M := by
  unfold gp_fl
  refine Prod.ext (funext fun a => funext fun i => ?_) rfl
  dsimp only
  rw [if_neg (by omega)]
theorem gp_fl_s : gz_w (gp_fl M c o N v) c (o + N) (v N) = gp_fl M c o (N + 1) v := by
  refine Prod.ext (funext fun a => funext fun i => ?_) rfl
  by_cases h : a = c ∧ i = o + N
  · rw [h.1, h.2, gp_gs]
    unfold gp_fl
    dsimp only
    rw [if_pos ⟨rfl, by omega, by omega⟩, Nat.add_sub_cancel_left]
  · rw [gp_gn h]
    unfold gp_fl
    dsimp only
    by_cases h1 : a = c ∧ o ≤ i ∧ i < o + N
    · rw [if_pos h1, if_pos (by omega)]
    · rw [if_neg h1, if_neg (by omega)]
theorem gp_fl_c {a : Nat} (h : a ≠ c) : (gp_fl M c o N v).1 a = M.1 a := by
  funext i
  unfold gp_fl
  dsimp only
  rw [if_neg (fun h' => h h'.1)]
theorem gp_fl_i {i : Nat} (h : i < N) : (gp_fl M c o N v).1 c (o + i) = v i := by
  unfold gp_fl
  dsimp only
  rw [if_pos ⟨rfl, by omega, by omega⟩, Nat.add_sub_cancel_left]
theorem gp_fl_n {i : Nat} (h : i < o ∨ o + N ≤ i) : (gp_fl M c o N v).1 c i = M.1 c i := by
  unfold gp_fl
  dsimp only
  rw [if_neg (by omega)]
theorem gp_fl_2 : (gp_fl M c o N v).2 = M.2 := rfl
theorem gp_fl_l {β : Type} (f : Nat → Int32 → gz_M → Option β) (K : gz_M → Option β) (hend : ∀ n, f (n + 1) (nI N) (gp_fl M c o N v) = K (gp_fl M c o N v)) (hstep : ∀ n x, x < N → f (n + 1) (nI x) (gp_fl M c o x v) = f n (nI (x + 1)) (gz_w (gp_fl M c o x v) c (o + x) (v x))) (n : Nat) (hn : N < n) : f n (nI 0) M = K (gp_fl M c o N v) := by
  have main : ∀ d x n, x + d = N → d < n → f n (nI x) (gp_fl M c o x v) = K (gp_fl M c o N v) := by
    intro d
    induction d with
    | zero =>
      intro x n hx hn
      obtain ⟨n, rfl⟩ : ∃ q, n = q + 1 := ⟨n - 1, by omega⟩
      have : x = N := by omega
      subst this
      exact hend n
    | succ d ih =>
      intro x n hx hn
      obtain ⟨n, rfl⟩ : ∃ q, n = q + 1 := ⟨n - 1, by omega⟩
      rw [hstep n x (by omega), gp_fl_s]
      exact ih (x + 1) n (by omega) (by omega)
  have := main N 0 n (by omega) hn
  rw [gp_fl_0] at this
  exact this
end
theorem gp_getD0 {α : Type} {d : α} {L : List α} {x : Nat} (h : L.length ≤ x) : L.getD x d = d := by
  simp [List.getD, h]
/-! books: rules told as a text, and a line -/
abbrev gp_Bk : Type := List Nat × List Nat
def gp_okB (b : gp_Bk) : Prop := gp_ok b.1 ∧ (∀ i, i < b.1.length → b.1.getD i 0 < 256) ∧ b.2.length ≤ 24 ∧ ∀ i, i < b.2.length → b.2.getD i 0 < 8
/-- a book of the reference: in cell c, from o on -/
def gp_rB (c o : Nat) (M : gz_M) (b : gp_Bk) : Prop := M.1 c o = nI b.1.length ∧ (∀ i, i < b.1.length → M.1 c (o + 1 + i) = nI (b.1.getD i 0)) ∧ M.1 c (o + 81) = nI b.2.length ∧ ∀ i, i < b.2.length → M.1 c (o + 82 + i) = nI (b.2.getD i 0)
/-- what laying rules may change -/
def gp_lyL (M M' : gz_M) : Prop := M'.2 = M.2 ∧ (∀ c, c ≠ 0 → c < 4 ∨ 14 < c → M'.1 c = M.1 c) ∧ ∀ i, i < 7 ∨ (10 < i ∧ i < 21) ∨ 24 < i → M'.1 0 i = M.1 0 i
theorem gp_lyL.refl (M : gz_M) : gp_lyL M M := ⟨rfl, fun _ _ _ => rfl, fun _ _ => rfl⟩
theorem gp_lyL.trans {M M1 M2 : gz_M} (h : gp_lyL M M1) (h' : gp_lyL M1 M2) : gp_lyL M M2 := ⟨h'.1.trans h.1, fun c a b => (h'.2.1 c a b).trans (h.2.1 c a b), fun i a => (h'.2.2 i a).trans (h.2.2 i a)⟩
theorem gp_lyL.w0 {i : Nat} (v : Int32) {M : gz_M} (h : (7 ≤ i ∧ i ≤ 10) ∨ (21 ≤ i ∧ i ≤ 24)) : gp_lyL M (gz_w M 0 i v) := ⟨rfl, fun c h1 h2 => gp_wc _ (by omega), fun a h1 => gp_gn (by omega)⟩
theorem gp_rL.ly {M M' : gz_M} (h : gp_rL M M') : gp_lyL M M' := ⟨h.1, fun c a b => h.2.1 c a (by omega), fun i a => h.2.2 i (by omega)⟩
section
variable {M M' : gz_M} {t : List Nat}
theorem gp_ok_flt (h : gp_ok t) : gp_flt t = none := by
  obtain ⟨_, s, h1, h2, _⟩ := h
  exact gp_flt_no h1 h2
theorem gp_ok_u (h : gp_ok t) : ∀ m, m < 4 → (gp_tab t).2.2 7 m ≤ 10 := by
  obtain ⟨_, s, h1, h2, h3⟩ := h
  intro m hm
  have : (gp_tab t).2.2 7 m = s.2.1.2.2 7 m := by
    unfold gp_tab
    rw [h1]
    dsimp only
    split
    · rfl
    · unfold gp_eR
      have e : (gp_eCh s).2.1.2.2 7 m = s.2.1.2.2 7 m := by
        have eP : (gp_eP s).2.1.2.2 7 m = s.2.1.2.2 7 m := by
          unfold gp_eP
          split
          · rfl
          · dsimp only
            unfold gp_lnO
            split
            · unfold gp_lnk
              dsimp only
              rw [if_neg (by omega)]
            · rfl
        unfold gp_eCh
        split
        · exact eP
        · exact eP
      split
      · dsimp only [gp_set]
        rw [if_neg (by omega), if_neg (by omega), if_neg (by omega)]
        exact e
      · exact e
  rw [this]
  exact h3 m hm
/-- rules of a state, that were right -/
theorem gp_lay {k0 : Nat} (hk : k0 ≠ 0 ∧ (k0 < 4 ∨ 14 < k0)) (ht : gp_ok t) (hb : ∀ i, i < t.length → t.getD i 0 < 256) (h0 : M.1 k0 0 = nI t.length) (h1 : ∀ i, i < t.length → M.1 k0 (1 + i) = nI (t.getD i 0)) : ∃ M', f12_layRules k0 M = some M' ∧ gp_lyL M M' ∧ gp_tR M' (gp_tab t) := by
  have h80 := ht.1
  obtain ⟨N, hN⟩ : ∃ N, N = gz_w M 0 7 (nI t.length) := ⟨_, rfl⟩
  have e0 : f12_layRules k0 M = f12_layRules_9 k0 gz_FU (nI 0) N := by
    unfold f12_layRules
    rw [show gz_inb 0 106 = true from gp_inb (i := 0) (by omega) (by omega), gp_eC, show (0 : Int32).toNatClampNeg = 0 from rfl, h0, gp_eL, ← hN]
    rfl
  have Nk : N.1 k0 = M.1 k0 := by rw [hN, gp_wc _ hk.1]
  have N7 : N.1 0 7 = nI t.length := by rw [hN, gp_gs]
  have lp := gp_fl_l (M := N) (c := 4) (o := 0) (N := t.length) (v := fun i => nI (t.getD i 0)) (fun n x M => f12_layRules_9 k0 n x M) (fun M1 => gz_lt (gz_w M1 0 8 0) fun M2 => gz_lt (gz_w M2 0 9 (-1)) fun M3 => gz_bd2 (f12_readRules M3) fun v4 M5 => if v4 = 0 then (gz_lt (gz_w M5 0 10 0) fun M8 => some M8) else (some M5)) (fun n => by
    show f12_layRules_9 k0 (n + 1) _ _ = _
    rw [f12_layRules_9, gp_fl_c (by omega), N7, if_pos (nI_le (Nat.le_refl _) (by omega))]) (fun n x hx => by
    show f12_layRules_9 k0 (n + 1) _ _ = f12_layRules_9 k0 n _ _
    have hx106 : (1 : Int32) + nI x = nI (1 + x) := by rw [show (1 : Int32) = nI 1 from rfl, nI_add]
    rw [f12_layRules_9, gp_fl_c (by omega), N7, if_neg (nI_ge hx (by omega)), hx106, gp_ckb (show 1 + x < 106 by omega) (by omega), gp_ckb (show x < 80 by omega) (by omega), nI_clamp (by omega), nI_clamp (by omega), gp_fl_c (show k0 ≠ 4 by omega), Nk, h1 x hx, gp_eL, gp_eL, nI_1, Nat.zero_add]) gz_FU (by unfold gz_FU; omega)
  obtain ⟨K, hK⟩ : ∃ K, K = gz_w (gz_w (gp_fl N 4 0 t.length (fun i => nI (t.getD i 0))) 0 8 0) 0 9 (-1) := ⟨_, rfl⟩
  have lK : gp_lyL M K := by
    rw [hK]
    refine ((gp_lyL.w0 (i := 7) (nI t.length) (by omega)).trans ?_).trans ((gp_lyL.w0 _ (by omega)).trans (gp_lyL.w0 _ (by omega)))
    rw [hN]
    exact ⟨rfl, fun c h1 h2 => gp_fl_c (by omega), fun i _ => by rw [gp_fl_c (by omega)]⟩
  have aK : gp_at K t 0 := by
    refine ⟨h80, Nat.zero_le _, ?_, ?_, ?_, fun i hi => ⟨?_, hb i hi⟩⟩
    · rw [hK, gp_gn (by omega), gp_gn (by omega), gp_fl_c (by omega), N7]
    · rw [hK, gp_gn (by omega), gp_gs]; rfl
    · rw [hK, gp_gs]; rfl
    · have := gp_fl_i (M := N) (c := 4) (o := 0) (N := t.length) (v := fun i => nI (t.getD i 0)) hi
      rw [Nat.zero_add] at this
      rw [hK, gp_gn (by omega), gp_gn (by omega), this]
  obtain ⟨v, M', r1, r2, r3⟩ := gp_rdRules aK
  rw [e0, show f12_layRules_9 k0 gz_FU (nI 0) N = _ from lp, gp_eL, gp_eL, ← hK, r1, gp_eB2]
  rcases r3 with ⟨r3, r4⟩ | ⟨r3, r4, r5, r6, s, r7, r8, r9, r10⟩
  · exfalso
    obtain ⟨q, _, q2, _⟩ := gp_bad_flt r4
    rw [gp_ok_flt ht] at q2
    cases q2
  · rw [r3, if_neg (by decide)]
    exact ⟨M', rfl, lK.trans r2.ly, r6.tR r5 (gp_ok_u ht)⟩
/-- the reference's text is read: what waits is read, none waits any more -/
def gp_txR (M : gz_M) (x : List Nat) : Prop := x.length ≤ 80 ∧ M.1 0 2 = nI x.length ∧ ∀ i, i < x.length → M.1 2 i &&& 255 = nI (x.getD i 0) ∧ x.getD i 0 < 256
def gp_bgL (M M' : gz_M) : Prop := M'.2 = M.2 ∧ (∀ c, c ≠ 0 → c ≠ 4 → M'.1 c = M.1 c) ∧ (∀ i, i ≠ 2 → i ≠ 7 → i ≠ 8 → i ≠ 9 → M'.1 0 i = M.1 0 i) ∧ M'.1 0 2 = 0
theorem gp_begin {x : List Nat} (h : gp_txR M x) : ∃ M', f12_begin M = some M' ∧ gp_bgL M M' ∧ gp_at M' x 0 := by
  obtain ⟨h80, h2, h3⟩ := h
  obtain ⟨N, hN⟩ : ∃ N, N = gz_w M 0 7 (nI x.length) := ⟨_, rfl⟩
  have e0 : f12_begin M = f12_begin_10 gz_FU (nI 0) N := by
    unfold f12_begin
    rw [h2, gp_eL, ← hN]
    rfl
  have N2 : N.1 2 = M.1 2 := by rw [hN, gp_wc _ (by omega)]
  have N7 : N.1 0 7 = nI x.length := by rw [hN, gp_gs]
  have lp := gp_fl_l (M := N) (c := 4) (o := 0) (N := x.length) (v := fun i => nI (x.getD i 0)) (fun n a M => f12_begin_10 n a M) (fun M1 => some (gz_w (gz_w (gz_w M1 0 8 0) 0 9 (-1)) 0 2 0)) (fun n => by
    show f12_begin_10 (n + 1) _ _ = _
    rw [f12_begin_10, gp_fl_c (by omega), N7, if_pos (nI_le (Nat.le_refl _) (by omega)), gp_eL, gp_eL, gp_eL]) (fun n i hi => by
    show f12_begin_10 (n + 1) _ _ = f12_begin_10 n _ _
    rw [f12_begin_10, gp_fl_c (by omega), N7, if_neg (nI_ge hi (by omega)), gp_ckb (show i < 80 by omega) (by omega), gp_ckb (show i < 80 by omega) (by omega), nI_clamp (by omega), gp_fl_c (show 2 ≠ 4 by omega), N2, (h3 i hi).1, gp_eL, gp_eL, nI_1, Nat.zero_add]) gz_FU (by unfold gz_FU; omega)
  refine ⟨_, by rw [e0]; exact lp, ⟨by rw [gp_gl, gp_gl, gp_gl, gp_fl_2, hN]; rfl, fun c h1 h2 => by rw [gp_wc _ h1, gp_wc _ h1, gp_wc _ h1, gp_fl_c h2, hN, gp_wc _ h1], fun i a1 a2 a3 a4 => by rw [gp_gn (by omega), gp_gn (by omega), gp_gn (by omega), gp_fl_c (by omega), hN, gp_gn (by omega)], by rw [gp_gs]⟩, ⟨h80, Nat.zero_le _, ?_, ?_, ?_, fun i hi => ⟨?_, (h3 i hi).2⟩⟩⟩
  · rw [gp_gn (by omega), gp_gn (by omega), gp_gn (by omega), gp_fl_c (by omega), N7]
  · rw [gp_gn (by omega), gp_gn (by omega), gp_gs]; rfl
  · rw [gp_gn (by omega), gp_gs]; rfl
  · have := gp_fl_i (M := N) (c := 4) (o := 0) (N := x.length) (v := fun i => nI (x.getD i 0)) hi
    rw [Nat.zero_add] at this
    rw [gp_gn (by omega), gp_gn (by omega), gp_gn (by omega), this]
end
end
section
/-! books of the component: copied, pushed, popped -/
def gp_bK (k : Nat) (M : gz_M) (b : gp_Bk) : Prop := gp_xK k M b.1 ∧ gp_lC (k + 2) M b.2
def gp_bk0 : gp_Bk := ([], [])
theorem gp_cp_c {M : gz_M} {k1 k2 n a : Nat} (h : a ≠ k2) : (gz_cp M k1 k2 0 0 n).1 a = M.1 a := by
  unfold gz_cp
  dsimp only
  rw [if_neg h]
theorem gp_cp_i {M : gz_M} {k1 k2 n i : Nat} (h : i < n) : (gz_cp M k1 k2 0 0 n).1 k2 i = M.1 k1 i := by
  unfold gz_cp va_cpy
  dsimp only
  rw [if_pos rfl, if_pos ⟨Nat.zero_le _, by omega⟩, Nat.zero_add, Nat.sub_zero]
section
variable {M M' : gz_M} {b : gp_Bk} {k k0 : Nat}
theorem gp_bK.fr (h : gp_bK k M b) (e : ∀ c, k ≤ c → c < k + 4 → M'.1 c = M.1 c) : gp_bK k M' b := by
  obtain ⟨⟨h1, h2, h3⟩, h4⟩ := h
  exact ⟨⟨h1, by rw [e k (by omega) (by omega)]; exact h2, fun i hi => by rw [e (k + 1) (by omega) (by omega)]; exact h3 i hi⟩, h4.fr (fun c c1 c2 => e c (by omega) (by omega))⟩
theorem gp_lcp {k k0 : Nat} {l : List Nat} (hk : k + 1 < k0 ∨ k0 + 1 < k) (M : gz_M) : ∃ M', f5_copy k k0 M = some M' ∧ M'.2 = M.2 ∧ (∀ c, c ≠ k → c ≠ k + 1 → M'.1 c = M.1 c) ∧ (gp_lC k0 M l → gp_lC k M' l) := by
  unfold f5_copy
  rw [gp_eL, gp_eL]
  refine ⟨_, rfl, rfl, fun c h1 h2 => by rw [gp_wc _ h1, gp_cp_c h2], fun ⟨h1, h2, h3⟩ => ⟨h1, by rw [gp_gs, gp_cp_c (by omega)]; exact h2, fun i hi => ?_⟩⟩
  rw [gp_gn (by omega), gp_cp_i (by omega)]
  exact h3 i hi
theorem gp_bcp (hk : k + 3 < k0 ∨ k0 + 3 < k) (M : gz_M) : ∃ M', f0_copy k k0 M = some M' ∧ M'.2 = M.2 ∧ (∀ c, c < k ∨ k + 3 < c → M'.1 c = M.1 c) ∧ ∀ b, gp_bK k0 M b → gp_bK k M' b := by
  obtain ⟨N, hN⟩ : ∃ N, N = gz_w (gz_cp M (k0 + 1) (k + 1) 0 0 80) k 1 ((gz_cp M (k0 + 1) (k + 1) 0 0 80).1 k0 1) := ⟨_, rfl⟩
  have nc : ∀ c, c ≠ k → c ≠ k + 1 → N.1 c = M.1 c := fun c h1 h2 => by rw [hN, gp_wc _ h1, gp_cp_c h2]
  obtain ⟨M', e1, e2, e3, _⟩ := gp_lcp (l := []) (k := k + 2) (k0 := k0 + 2) (by omega) N
  have e4 : ∀ l, gp_lC (k0 + 2) N l → gp_lC (k + 2) M' l := fun l h => by
    obtain ⟨M2, d1, d2, d3, d4⟩ := gp_lcp (l := l) (k := k + 2) (k0 := k0 + 2) (by omega) N
    rw [e1] at d1
    cases d1
    exact d4 h
  unfold f0_copy
  rw [gp_eL, gp_eL, ← hN, e1, gp_eB]
  refine ⟨M', rfl, by rw [e2, hN]; rfl, fun c hc => by rw [e3 c (by omega) (by omega), nc c (by omega) (by omega)], fun b hb => ?_⟩
  obtain ⟨⟨h1, h2, h3⟩, h4⟩ := hb
  refine ⟨⟨h1, ?_, fun i hi => ?_⟩, e4 b.2 (h4.fr (fun c c1 c2 => nc c (by omega) (by omega)))⟩
  · rw [e3 k (by omega) (by omega), hN, gp_gs, gp_cp_c (by omega)]
    exact h2
  · rw [e3 (k + 1) (by omega) (by omega), hN, gp_gn (by omega), gp_cp_i (by omega)]
    exact h3 i hi
end
/-- the ten that can be undone, oldest first, from o on -/
def gp_H (pf : Nat → Bool) (M : gz_M) (o : Nat) (us : List gp_Bk) : Prop := o < 10 ∧ us.length ≤ 10 ∧ M.1 131 1 = nI o ∧ M.1 131 2 = nI us.length ∧ ∀ j, j < us.length → pf ((o + j) % 10) = true ∧ gp_bK (135 + 4 * ((o + j) % 10)) M (us.getD j gp_bk0)
def gp_pf (pf : Nat → Bool) : Prop := ∀ j, j < 12 → pf (100 + j) = pf j
theorem gp_mod10 {a : Nat} (h : a < 20) (M : gz_M) : fJ_floorMod (nI a) 10 M = some (nI (a % 10), M) := by
  have e : ∀ a : Nat, a < 20 → gz_rem (nI a) 10 = nI (a % 10) ∧ 0 ≤ (nI a ^^^ 10) := by decide +kernel
  obtain ⟨e1, e2⟩ := e a h
  unfold fJ_floorMod
  rw [show (!decide ((10 : Int32) = 0)) = true from by decide, gp_eC, gp_eL, if_pos e2, e1]
theorem gp_rem10 {a : Nat} (h : a < 20) : gz_rem (nI a) 10 = nI (a % 10) := by
  have e : ∀ a : Nat, a < 20 → gz_rem (nI a) 10 = nI (a % 10) := by decide +kernel
  exact e a h
/-- a slot: made, if there is none -/
theorem gp_slotG {pf : Nat → Bool} {M : gz_M} {o s : Nat} (hp : gp_pf pf) (ho : o < 10) (h1 : M.1 131 1 = nI o) (hs : s < 10) : ∃ M' pf', g4_slotAt (nI s) M pf = some (135 + 4 * ((o + s) % 10), M', pf') ∧ M'.2 = M.2 ∧ (∀ c, c < 135 + 4 * ((o + s) % 10) ∨ 135 + 4 * ((o + s) % 10) + 3 < c → M'.1 c = M.1 c) ∧ gp_pf pf' ∧ pf' ((o + s) % 10) = true ∧ ∀ j, j < 12 → j ≠ (o + s) % 10 → pf' j = pf j := by
  have hi : (o + s) % 10 < 10 := Nat.mod_lt _ (by omega)
  unfold g4_slotAt
  rw [h1, nI_add, gp_mod10 (by omega), gp_eB2, gp_ckb hi (by omega), nI_clamp (by omega), Nat.zero_add]
  generalize (o + s) % 10 = i at hi
  by_cases hpf : pf i = true
  · rw [if_pos (by rw [hp i (by omega)]; exact hpf), hpf, gp_eC]
    unfold g4_slotAt_34
    rw [gp_ckb hi (by omega), nI_clamp (by omega), Nat.zero_add, if_pos (by rw [hp i (by omega)]; exact hpf), hpf, gp_eC]
    exact ⟨M, pf, rfl, rfl, fun _ _ => rfl, hp, hpf, fun _ _ _ => rfl⟩
  · have hpf' : pf i = false := by simpa using hpf
    have q1 : gz_pfs (gz_pfs pf i) (100 + i) i = true := by
      unfold gz_pfs
      rw [if_neg (by omega), if_pos rfl]
    have q2 : gz_pfs (gz_pfs pf i) (100 + i) (100 + i) = true := by
      unfold gz_pfs
      rw [if_pos rfl]
    have q3 : gz_pfs pf i i = true := by
      unfold gz_pfs
      rw [if_pos rfl]
    rw [if_neg (by rw [hp i (by omega)]; exact hpf), show decide (0 + 1 ≤ 1) = true from by decide, gp_eC, decide_eq_true (show i < 12 by omega), gp_eC, hpf', Bool.not_false, gp_eC, hp i (by omega), hpf', Bool.not_false, gp_eC, gp_eL, gp_ckb hi (by omega), q3, gp_eC, decide_eq_true rfl, gp_eC]
    unfold g4_slotAt_34
    rw [gp_ckb hi (by omega), nI_clamp (by omega), Nat.zero_add, if_pos q2, q1, gp_eC]
    refine ⟨_, _, rfl, rfl, fun c hc => ?_, fun j hj => ?_, q1, fun j hj hn => ?_⟩
    · unfold gz_nb
      dsimp only
      rw [if_neg (by omega)]
    · unfold gz_pfs
      by_cases hji : j = i
      · rw [hji, if_pos rfl, if_neg (by omega), if_pos rfl]
      · rw [if_neg (by omega), if_neg (by omega), if_neg (by omega), if_neg hji]
        exact hp j hj
    · unfold gz_pfs
      rw [if_neg (by omega), if_neg hn]
/-- the book now is pushed -/
theorem gp_pushG {pf : Nat → Bool} {M : gz_M} {o : Nat} {us : List gp_Bk} {b : gp_Bk} (hp : gp_pf pf) (h : gp_H pf M o us) (hb : gp_bK 7 M b) : ∃ M' pf' o', g4_push 7 M pf = some (M', pf') ∧ M'.2 = M.2 ∧ (∀ c, c ≠ 131 → c < 135 ∨ 175 ≤ c → M'.1 c = M.1 c) ∧ gp_pf pf' ∧ (∀ j, 10 ≤ j → j < 12 → pf' j = pf j) ∧ gp_H pf' M' o' ((if us.length = 10 then us.drop 1 else us) ++ [b]) := by
  obtain ⟨h1, h2, h3, h4, h5⟩ := h
  obtain ⟨s, hs10, hs⟩ : ∃ s, s < 10 ∧ s = if us.length = 10 then 0 else us.length := by
    refine ⟨_, ?_, rfl⟩
    split <;> omega
  have e0 : g4_push 7 M pf = g4_push_18 7 (nI s) M pf 0 := by
    unfold g4_push
    rw [h4]
    by_cases hl : us.length = 10
    · rw [if_pos (show (10 : Int32) ≤ nI us.length from nI_le (a := 10) (by omega) (by omega)), hs, if_pos hl]
      rfl
    · rw [if_neg (show ¬ (10 : Int32) ≤ nI us.length from nI_ge (b := 10) (by omega) (by omega)), hs, if_neg hl]
  obtain ⟨M1, pf1, a1, a2, a3, a4, a5, a6⟩ := gp_slotG hp h1 h3 hs10
  have hi : (o + s) % 10 < 10 := Nat.mod_lt _ (by omega)
  generalize hie : (o + s) % 10 = i at a1 a3 a5 a6 hi
  have hb1 : gp_bK 7 M1 b := hb.fr (fun c c1 c2 => a3 c (by omega))
  obtain ⟨M2, b1, b2, b3, b4⟩ := gp_bcp (k := 135 + 4 * i) (k0 := 7) (by omega) M1
  have hb2 := b4 b hb1
  have m131 : M2.1 131 = M.1 131 := by rw [b3 131 (by omega), a3 131 (by omega)]
  have fr2 : ∀ c, c < 135 + 4 * i ∨ 135 + 4 * i + 3 < c → M2.1 c = M.1 c := fun c hc => by rw [b3 c (by omega), a3 c (by omega)]
  have e1 : g4_push 7 M pf = if us.length = 10 then some (gz_w M2 131 1 (nI ((o + 1) % 10)), pf1) else some (gz_w M2 131 2 (nI (us.length + 1)), pf1) := by
    rw [e0]
    unfold g4_push_18
    rw [show decide (0 + 1 ≤ 1) = true from by decide, gp_eC, a1, gp_eB3, b1, gp_eB, m131, h4, h3, nI_1, nI_1]
    by_cases hl : us.length = 10
    · rw [if_pos (show (10 : Int32) ≤ nI us.length from nI_le (a := 10) (by omega) (by omega)), if_pos hl, show (!decide ((10 : Nat) = 0)) = true from by decide, gp_eC, gp_rem10 (by omega), gp_eL]
    · rw [if_neg (show ¬ (10 : Int32) ≤ nI us.length from nI_ge (b := 10) (by omega) (by omega)), if_neg hl, gp_eL]
  have n0 : ∀ v n c, c ≠ 131 → (gz_w M2 131 n v).1 c = M2.1 c := fun v n c h => gp_wc _ h
  by_cases hl : us.length = 10
  · rw [if_pos hl] at e1 hs
    subst hs
    rw [Nat.add_zero, Nat.mod_eq_of_lt h1] at hie
    subst hie
    refine ⟨_, _, (o + 1) % 10, e1, by rw [gp_gl, b2, a2], fun c h1 h2 => by rw [n0 _ _ c h1, fr2 c (by omega)], a4, fun j h1 h2 => a6 j (by omega) (by omega), Nat.mod_lt _ (by omega), ?_, gp_gs _ _ _ _, ?_, fun j hj => ?_⟩
    · rw [if_pos hl]
      simp
      omega
    · rw [gp_gn (by omega), m131, h4, if_pos hl]
      simp
      rw [hl]
    · rw [if_pos hl] at hj ⊢
      have hj : j < 10 := by
        simp at hj
        omega
      have hdl : (us.drop 1).length = 9 := by simp; omega
      have hmm : ((o + 1) % 10 + j) % 10 = (o + (j + 1)) % 10 := by omega
      rw [hmm]
      by_cases hj9 : j = 9
      · subst hj9
        rw [show (o + (9 + 1)) % 10 = o by omega]
        refine ⟨a5, ?_⟩
        have e : (us.drop 1 ++ [b]).getD 9 gp_bk0 = b := by
          rw [← hdl]
          exact gp_getD_r
        rw [e]
        exact hb2.fr (fun c c1 c2 => n0 _ _ c (by omega))
      · have e : (us.drop 1 ++ [b]).getD j gp_bk0 = us.getD (j + 1) gp_bk0 := by
          rw [gp_getD_l (by omega)]
          simp [List.getD, List.getElem?_drop, Nat.add_comm]
        rw [e]
        have hne : (o + (j + 1)) % 10 ≠ o := by omega
        obtain ⟨c1, c2⟩ := h5 (j + 1) (by omega)
        refine ⟨by rw [a6 _ (by omega) hne]; exact c1, c2.fr (fun c c1 c2 => ?_)⟩
        rw [n0 _ _ c (by omega), fr2 c (by omega)]
  · rw [if_neg hl] at e1 hs
    subst hs
    refine ⟨_, _, o, e1, by rw [gp_gl, b2, a2], fun c h1 h2 => by rw [n0 _ _ c h1, fr2 c (by omega)], a4, fun j h1 h2 => a6 j (by omega) (by omega), h1, ?_, ?_, ?_, fun j hj => ?_⟩
    · rw [if_neg hl]
      simp
      omega
    · rw [gp_gn (by omega), m131, h3]
    · rw [gp_gs, if_neg hl]
      simp
    · rw [if_neg hl] at hj ⊢
      have hj : j < us.length + 1 := by simpa using hj
      by_cases hj9 : j = us.length
      · subst hj9
        rw [hie, gp_getD_r]
        exact ⟨a5, hb2.fr (fun c c1 c2 => n0 _ _ c (by omega))⟩
      · rw [gp_getD_l (by omega)]
        have hne : (o + j) % 10 ≠ i := by omega
        obtain ⟨c1, c2⟩ := h5 j (by omega)
        refine ⟨by rw [a6 _ (by omega) hne]; exact c1, c2.fr (fun c c1 c2 => ?_)⟩
        rw [n0 _ _ c (by omega), fr2 c (by omega)]
/-- the latest one is popped -/
theorem gp_popF {pf : Nat → Bool} {M : gz_M} {o : Nat} {us : List gp_Bk} {b : gp_Bk} (hp : gp_pf pf) (h : gp_H pf M o (us ++ [b])) : ∃ M', f4_pop pf 7 M = some (1, M') ∧ M'.2 = M.2 ∧ (∀ c, c ≠ 131 → c < 7 ∨ 10 < c → M'.1 c = M.1 c) ∧ gp_H pf M' o us ∧ gp_bK 7 M' b := by
  obtain ⟨h1, h2, h3, h4, h5⟩ := h
  have hlen : (us ++ [b]).length = us.length + 1 := by simp
  rw [hlen] at h2 h4 h5
  obtain ⟨c1, c2⟩ := h5 us.length (by omega)
  rw [gp_getD_r] at c2
  have hi : (o + us.length) % 10 < 10 := Nat.mod_lt _ (by omega)
  generalize hie : (o + us.length) % 10 = i at c1 c2 hi
  obtain ⟨N, hN⟩ : ∃ N, N = gz_w M 131 2 (nI us.length) := ⟨_, rfl⟩
  have nc : ∀ c, c ≠ 131 → N.1 c = M.1 c := fun c hc => by rw [hN, gp_wc _ hc]
  obtain ⟨M', b1, b2, b3, b4⟩ := gp_bcp (k := 7) (k0 := 135 + 4 * i) (by omega) N
  have N1 : N.1 131 1 = nI o := by rw [hN, gp_gn (by omega), h3]
  have N2 : N.1 131 2 = nI us.length := by rw [hN, gp_gs]
  refine ⟨M', ?_, by rw [b2, hN]; rfl, fun c h1 h2 => by rw [b3 c h2, nc c h1], ⟨h1, by omega, by rw [b3 131 (by omega)]; exact N1, by rw [b3 131 (by omega)]; exact N2, fun j hj => ?_⟩, b4 b (c2.fr (fun c c1 c2 => nc c (by omega)))⟩
  · unfold f4_pop
    rw [h4, if_pos (show (0 : Int32) < nI (us.length + 1) from nI_lt (a := 0) (by omega) (by omega)), nI_pred, gp_eL, ← hN, N2]
    unfold f4_slotAt
    rw [N1, nI_add, gp_mod10 (by omega), gp_eB2, hie, gp_ckb hi (by omega), nI_clamp (by omega), Nat.zero_add, if_pos (by rw [hp i (by omega)]; exact c1), c1, gp_eC]
    unfold f4_slotAt_34
    rw [gp_ckb hi (by omega), nI_clamp (by omega), Nat.zero_add, if_pos (by rw [hp i (by omega)]; exact c1), c1, gp_eC, gp_eB2, b1, gp_eB]
  · obtain ⟨d1, d2⟩ := h5 j (by omega)
    rw [gp_getD_l hj] at d2
    have := Nat.mod_lt (o + j) (show 10 > 0 by omega)
    exact ⟨d1, d2.fr (fun c c1 c2 => by rw [b3 c (by omega), nc c (by omega)])⟩
end
section
/-! what both worlds hold, in full -/
def gp_uR (M : gz_M) (us : List gp_Bk) : Prop := M.1 0 51 = nI us.length ∧ ∀ j, j < us.length → gp_rB 33 (106 * j) M (us.getD j gp_bk0)
def gp_kp1 (pf : Nat → Bool) (Mc Mr : gz_M) (i : Nat) : Option gp_Bk → Prop
  | none => pf (10 + i) = false ∧ Mr.1 22 i = 0
  | some b => gp_okB b ∧ pf (10 + i) = true ∧ gp_bK (135 + 4 * (10 + i)) Mc b ∧ Mr.1 22 i = 1 ∧ gp_rB 21 (106 * i) Mr b
def gp_kp (pf : Nat → Bool) (Mc Mr : gz_M) (ks : Nat → Option gp_Bk) : Prop := ∀ i, i < 2 → gp_kp1 pf Mc Mr i (ks i)
def gp_RI (B : Prop) (pf : Nat → Bool) (cu : Nat) (Mc Mr : gz_M) (x : List Nat) (b : gp_Bk) (us : List gp_Bk) (ks : Nat → Option gp_Bk) (o : Nat) : Prop := gp_Q B cu Mc Mr (gp_tab b.1) b.2 ∧ gp_okB b ∧ gp_xC Mc x ∧ gp_txR Mr x ∧ gp_xK 7 Mc b.1 ∧ gp_rB 1 0 Mr b ∧ gp_pf pf ∧ gp_H pf Mc o us ∧ (∀ u, u ∈ us → gp_okB u) ∧ gp_uR Mr us ∧ gp_kp pf Mc Mr ks
def gp_R (B : Prop) (pf : Nat → Bool) (Mc Mr : gz_M) : Prop := ∃ cu x b us ks o, gp_RI B pf cu Mc Mr x b us ks o
/-- a call: the same answer, and both worlds hold again -/
def gp_call (B : Prop) (a : Option (Int32 × gz_M × (Nat → Bool))) (b : Option (Int32 × gz_M)) : Prop := ∃ v Mc' pf' Mr', a = some (v, Mc', pf') ∧ b = some (v, Mr') ∧ gp_R B pf' Mc' Mr'
section
variable {B : Prop} {pf pf' : Nat → Bool} {M M' Mc Mr Mc' Mr' : gz_M} {cu o : Nat} {x t l : List Nat} {b : gp_Bk} {us : List gp_Bk} {ks : Nat → Option gp_Bk}
theorem gp_rB.cp {c c' o o' : Nat} (h : gp_rB c o M b) (h1 : b.1.length ≤ 80) (h2 : b.2.length ≤ 24) (e : ∀ i, i < 106 → M'.1 c' (o' + i) = M.1 c (o + i)) : gp_rB c' o' M' b := by
  obtain ⟨a1, a2, a3, a4⟩ := h
  refine ⟨?_, fun i hi => ?_, ?_, fun i hi => ?_⟩
  · have := e 0 (by omega)
    rw [Nat.add_zero, Nat.add_zero] at this
    rw [this]
    exact a1
  · have := e (1 + i) (by omega)
    rw [Nat.add_assoc, this, ← Nat.add_assoc]
    exact a2 i hi
  · rw [e 81 (by omega)]
    exact a3
  · have := e (82 + i) (by omega)
    rw [Nat.add_assoc, this, ← Nat.add_assoc]
    exact a4 i hi
theorem gp_rB.fr {c o : Nat} (h : gp_rB c o M b) (e : M'.1 c = M.1 c) : gp_rB c o M' b := by
  unfold gp_rB
  rw [e]
  exact h
theorem gp_rB.lR (h : gp_rB 1 0 M b) (hb : gp_okB b) : gp_lR M b.2 := by
  obtain ⟨a1, a2, a3, a4⟩ := h
  refine ⟨hb.2.2.1, by rw [Nat.zero_add] at a3; exact a3, fun i hi => ⟨?_, hb.2.2.2 i hi⟩⟩
  have := a4 i hi
  rw [Nat.zero_add] at this
  exact this
theorem gp_uR.fr (h : gp_uR M us) (e : M'.1 33 = M.1 33) (e0 : M'.1 0 51 = M.1 0 51) : gp_uR M' us := ⟨by rw [e0]; exact h.1, fun j hj => (h.2 j hj).fr e⟩
theorem gp_H.fr (h : gp_H pf M o us) (e : ∀ c, c = 131 ∨ (135 ≤ c ∧ c < 175) → M'.1 c = M.1 c) : gp_H pf M' o us := by
  obtain ⟨h1, h2, h3, h4, h5⟩ := h
  refine ⟨h1, h2, by rw [e 131 (by omega)]; exact h3, by rw [e 131 (by omega)]; exact h4, fun j hj => ?_⟩
  have := Nat.mod_lt (o + j) (show 10 > 0 by omega)
  exact ⟨(h5 j hj).1, (h5 j hj).2.fr (fun c c1 c2 => e c (by omega))⟩
theorem gp_kp.fr (h : gp_kp pf Mc Mr ks) (ep : ∀ j, 10 ≤ j → j < 12 → pf' j = pf j) (e : ∀ c, 175 ≤ c → Mc'.1 c = Mc.1 c) (e' : ∀ c, c = 21 ∨ c = 22 → Mr'.1 c = Mr.1 c) : gp_kp pf' Mc' Mr' ks := by
  intro i hi
  have h1 := h i hi
  cases hk : ks i with
  | none =>
    rw [hk] at h1
    exact ⟨by rw [ep _ (by omega) (by omega)]; exact h1.1, by rw [e' 22 (by omega)]; exact h1.2⟩
  | some b =>
    rw [hk] at h1
    obtain ⟨a1, a2, a3, a4, a5⟩ := h1
    exact ⟨a1, by rw [ep _ (by omega) (by omega)]; exact a2, a3.fr (fun c c1 c2 => e c (by omega)), by rw [e' 22 (by omega)]; exact a4, a5.fr (e' 21 (by omega))⟩
theorem gp_txR.fr (h : gp_txR M x) (e : M'.1 2 = M.1 2) (e0 : M'.1 0 2 = M.1 0 2) : gp_txR M' x := ⟨h.1, by rw [e0]; exact h.2.1, fun i hi => by rw [e]; exact h.2.2 i hi⟩
theorem gp_rw.fr (h : gp_rw B Mc Mr) (ec : Mc'.2 = Mc.2) (ec0 : Mc'.1 0 15 = Mc.1 0 15) (er : Mr'.2 = Mr.2) (er0 : Mr'.1 0 4 = Mr.1 0 4) : gp_rw B Mc' Mr' := by
  obtain ⟨r, r', h0, h1, h2, h3, h4⟩ := h
  exact ⟨r, r', h0, h1, h2.fr ec ec0, h3.fr er er0, h4⟩
/-- a question leaves what both hold -/
theorem gp_RI.ans (h : gp_RI B pf cu Mc Mr x b us ks o) (e1 : gp_qC cu Mc Mc') (e2 : gp_qR Mr Mr') (hr : gp_rw B Mc' Mr') : gp_RI B pf cu Mc' Mr' x b us ks o := by
  obtain ⟨h1, h2, h3, h4, h5, h6, h7, h8, h9, h10, h11⟩ := h
  have hcu := h1.2.2.2.2.2.1.1
  refine ⟨h1.row hr e1 e2, h2, h3.fr (e1.1 1 (by omega)) (e1.1 2 (by omega)), h4.fr (e2.1 2 (by omega)) e2.2.1, ?_, h6.fr (e2.1 1 (by omega)), h7, h8.fr (fun c hc => e1.1 c (by omega)), h9, h10.fr (e2.1 33 (by omega)) e2.2.2.2, h11.fr (fun _ _ _ => rfl) (fun c hc => e1.1 c (by omega)) (fun c hc => e2.1 c (by omega))⟩
  obtain ⟨a1, a2, a3⟩ := h5
  exact ⟨a1, by rw [e1.1 7 (by omega)]; exact a2, fun i hi => by rw [e1.1 8 (by omega)]; exact a3 i hi⟩
theorem gp_RI.q (h : gp_RI B pf cu Mc Mr x b us ks o) {f : Option (Int32 × gz_M)} {g : Option (Int32 × gz_M)} (a : gp_ans B cu Mc Mr f g) : ∃ v Mc' Mr', f = some (v, Mc') ∧ g = some (v, Mr') ∧ gp_R B pf Mc' Mr' := by
  obtain ⟨v, Mc', Mr', a1, a2, a3, a4, a5⟩ := a
  exact ⟨v, Mc', Mr', a1, a2, cu, x, b, us, ks, o, h.ans a3 a4 a5⟩
/-- the line is cut anew -/
theorem gp_recut (hw : gp_wT (gp_tab t)) (ht : gp_tC 11 M (gp_tab t)) (hl : gp_lC 9 M l) (hcu : cu = 30 ∨ cu = 60) (h5 : gz_cIx (M.1 0 5) = cu) : ∃ M', f11_recut M = some M' ∧ M'.2 = M.2 ∧ (∀ c, c < cu ∨ cu + 9 ≤ c → M'.1 c = M.1 c) ∧ gp_cC cu M' (gp_cut (gp_tab t) l) := by
  obtain ⟨M', e1, e2, e3, e4⟩ := gp_make (k := cu) (k0 := 11) (k1 := 9) hw (by omega) (by omega) ht hl
  unfold f11_recut
  rw [h5, show (7 + 2 : Nat) = 9 from rfl, e1, gp_eB]
  exact ⟨M', rfl, e2, e3, e4⟩
theorem gp_refresh (hok : gp_ok t) (hx : gp_xK 7 M t) (hl : gp_lC 9 M l) (hcu : cu = 30 ∨ cu = 60) (h5 : gz_cIx (M.1 0 5) = cu) : ∃ M', f11_refresh M = some M' ∧ M'.2 = M.2 ∧ (∀ c, c ≠ 4 → c ≠ 5 → c ≠ 6 → c < 11 ∨ 29 < c → c < cu ∨ cu + 9 ≤ c → M'.1 c = M.1 c) ∧ gp_tC 11 M' (gp_tab t) ∧ gp_cC cu M' (gp_cut (gp_tab t) l) := by
  obtain ⟨M1, e1, e2, e3⟩ := gp_bldC (k := 11) (k1 := 7) ⟨by omega, fun c hc => by omega⟩ hok hx
  have hw := gp_tab_w (fun i hi => (hx.2.2 i hi).2) hok
  obtain ⟨M2, f1, f2, f3, f4⟩ := gp_recut (l := l) hw e3 (hl.fr (fun c c1 c2 => e2.2 c (by omega) (by omega) (by omega) (by omega))) hcu (by rw [e2.2 0 (by omega) (by omega) (by omega) (by omega)]; exact h5)
  unfold f11_refresh
  rw [e1, gp_eB, f1, gp_eB]
  exact ⟨M2, rfl, by rw [f2, e2.1], fun c c1 c2 c3 c4 c5 => by rw [f3 c c5, e2.2 c c1 c2 c3 (by omega)], e3.fr (fun c c1 c2 => f3 c (by omega)), f4⟩
/-- the reference notes a book that it has laid aside -/
theorem gp_noteR (h : gp_uR M us) (hl : us.length ≤ 10) (hok : ∀ u, u ∈ us → gp_okB u) (hb : gp_okB b) (hr : gp_rB 34 0 M b) : ∃ M', f12_note M = some M' ∧ M'.2 = M.2 ∧ (∀ c, c ≠ 0 → c ≠ 33 → M'.1 c = M.1 c) ∧ (∀ i, i ≠ 51 → M'.1 0 i = M.1 0 i) ∧ gp_uR M' ((if us.length = 10 then us.drop 1 else us) ++ [b]) := by
  obtain ⟨h1, h2⟩ := h
  -- the copy
  have cpy : ∀ (N : gz_M) (k : Nat), k < 10 → N.1 0 51 = nI k → f12_note_51 gz_FU (nI 0) N = some (gz_w (gp_fl N 33 (106 * k) 106 (fun i => N.1 34 i)) 0 51 (nI (k + 1))) := fun N k hk e51 => by
    refine gp_fl_l (M := N) (c := 33) (o := 106 * k) (N := 106) (v := fun i => N.1 34 i) (fun n a M => f12_note_51 n a M) (fun M1 => some (gz_w M1 0 51 (nI (k + 1)))) (fun n => ?_) (fun n i hi => ?_) gz_FU (by unfold gz_FU; omega)
    · show f12_note_51 (n + 1) _ _ = _
      rw [f12_note_51, if_pos (show (106 : Int32) ≤ nI 106 by decide), gp_fl_c (by omega), e51, nI_1, gp_eL]
    · show f12_note_51 (n + 1) _ _ = f12_note_51 n _ _
      rw [f12_note_51, if_neg (show ¬ (106 : Int32) ≤ nI i from nI_ge (b := 106) hi (by omega)), gp_ckb (show i < 106 by omega) (by omega), gp_fl_c (by omega), e51, show (106 : Int32) = nI 106 from rfl, pk_mul, nI_add, gp_ckb (show 106 * k + i < 1060 by omega) (by omega), nI_clamp (by omega), nI_clamp (by omega), gp_fl_c (by omega), gp_eL, gp_eL, nI_1]
  have fin : ∀ (N : gz_M) (vs : List gp_Bk), vs.length < 10 → N.1 0 51 = nI vs.length → N.2 = M.2 → (∀ c, c ≠ 0 → c ≠ 33 → N.1 c = M.1 c) → (∀ i, i ≠ 51 → N.1 0 i = M.1 0 i) → (∀ j, j < vs.length → gp_rB 33 (106 * j) N (vs.getD j gp_bk0)) → (∀ u, u ∈ vs → gp_okB u) → ∃ M', f12_note_51 gz_FU (nI 0) N = some M' ∧ M'.2 = M.2 ∧ (∀ c, c ≠ 0 → c ≠ 33 → M'.1 c = M.1 c) ∧ (∀ i, i ≠ 51 → M'.1 0 i = M.1 0 i) ∧ gp_uR M' (vs ++ [b]) := by
    intro N vs q1 q2 q3 q4 q5 q6 q7
    refine ⟨_, cpy N vs.length q1 q2, by rw [gp_gl, gp_fl_2, q3], fun c c1 c2 => by rw [gp_wc _ c1, gp_fl_c c2, q4 c c1 c2], fun i hi => by rw [gp_gn (by omega), gp_fl_c (by omega), q5 i hi], ?_, fun j hj => ?_⟩
    · rw [gp_gs, List.length_append]
      rfl
    · have hj : j < vs.length + 1 := by simpa using hj
      by_cases hjj : j = vs.length
      · subst hjj
        rw [gp_getD_r]
        refine hr.cp hb.1.1 hb.2.2.1 (fun i hi => ?_)
        rw [gp_gn (by omega), gp_fl_i hi, Nat.zero_add, q4 34 (by omega) (by omega)]
      · rw [gp_getD_l (by omega)]
        have ho := q7 _ (gp_getD_mem (d := gp_bk0) (show j < vs.length by omega))
        refine (q6 j (by omega)).cp ho.1.1 ho.2.2.1 (fun i hi => ?_)
        rw [gp_gn (by omega), gp_fl_n (by omega)]
  unfold f12_note
  rw [h1]
  by_cases h10 : us.length = 10
  · rw [if_pos (show nI us.length = (10 : Int32) from by rw [h10]; rfl), if_pos h10]
    have shf : f12_note_11 gz_FU (nI 0) M = f12_note_51 gz_FU 0 (gz_w (gp_fl M 33 0 954 (fun i => M.1 33 (i + 106))) 0 51 (nI 9)) := by
      refine gp_fl_l (M := M) (c := 33) (o := 0) (N := 954) (v := fun i => M.1 33 (i + 106)) (fun n a M => f12_note_11 n a M) (fun M1 => f12_note_51 gz_FU 0 (gz_w M1 0 51 (nI 9))) (fun n => ?_) (fun n i hi => ?_) gz_FU (by unfold gz_FU; omega)
      · show f12_note_11 (n + 1) _ _ = _
        rw [f12_note_11, if_pos (show (954 : Int32) ≤ nI 954 by decide), gp_fl_c (by omega), h1, h10, nI_pred, gp_eL]
      · show f12_note_11 (n + 1) _ _ = f12_note_11 n _ _
        rw [f12_note_11, if_neg (show ¬ (954 : Int32) ≤ nI i from nI_ge (b := 954) hi (by omega)), show (106 : Int32) = nI 106 from rfl, nI_add, gp_ckb (show i + 106 < 1060 by omega) (by omega), gp_ckb (show i < 1060 by omega) (by omega), nI_clamp (by omega), nI_clamp (by omega), gp_fl_n (by omega), gp_eL, gp_eL, nI_1, Nat.zero_add]
    rw [show (0 : Int32) = nI 0 from rfl, shf]
    have hdl : (us.drop 1).length = 9 := by simp; omega
    refine fin _ (us.drop 1) (by omega) (by rw [gp_gs, hdl]) rfl (fun c c1 c2 => by rw [gp_wc _ c1, gp_fl_c c2]) (fun i hi => by rw [gp_gn (by omega), gp_fl_c (by omega)]) (fun j hj => ?_) (fun u hu => hok u (List.mem_of_mem_drop hu))
    rw [hdl] at hj
    have e : (us.drop 1).getD j gp_bk0 = us.getD (j + 1) gp_bk0 := by simp [List.getD, List.getElem?_drop, Nat.add_comm]
    have ho := hok _ (gp_getD_mem (d := gp_bk0) (show j + 1 < us.length by omega))
    rw [e]
    refine (h2 (j + 1) (by omega)).cp ho.1.1 ho.2.2.1 (fun i hi => ?_)
    have := gp_fl_i (M := M) (c := 33) (o := 0) (N := 954) (v := fun i => M.1 33 (i + 106)) (show 106 * j + i < 954 by omega)
    rw [Nat.zero_add] at this
    rw [gp_gn (by omega), this]
    show M.1 33 (106 * j + i + 106) = _
    rw [show 106 * j + i + 106 = 106 * (j + 1) + i by omega]
  · rw [if_neg (show ¬ nI us.length = (10 : Int32) from fun h => h10 ((nI_eq (b := 10) (by omega) (by omega)).mp h)), if_neg h10]
    exact fin M us (by omega) h1 rfl (fun _ _ _ => rfl) (fun _ _ => rfl) h2 hok
/-- the reference lays its state aside -/
theorem gp_thenL {β : Type} (f : Nat → Int32 → gz_M → Option β) (K : gz_M → Option β) (hend : ∀ n M1, f (n + 1) (nI 106) M1 = K M1) (hstep : ∀ n i M1, i < 106 → f (n + 1) (nI i) M1 = f n (nI (i + 1)) (gz_w M1 34 i (M1.1 1 i))) (M : gz_M) (hb : gp_okB b) (hr : gp_rB 1 0 M b) : ∃ M', f gz_FU (nI 0) M = K M' ∧ M'.2 = M.2 ∧ (∀ c, c ≠ 34 → M'.1 c = M.1 c) ∧ gp_rB 34 0 M' b := by
  have e := gp_fl_l (M := M) (c := 34) (o := 0) (N := 106) (v := fun i => M.1 1 i) f K (fun n => hend n _) (fun n i hi => by rw [hstep n i _ hi, gp_fl_c (by omega), Nat.zero_add]) gz_FU (by unfold gz_FU; omega)
  refine ⟨_, e, rfl, fun c hc => gp_fl_c hc, hr.cp hb.1.1 hb.2.2.1 (fun i hi => by rw [gp_fl_i hi, Nat.zero_add])⟩
theorem gp_chgR (h : gp_uR M us) (hl : us.length ≤ 10) (hok : ∀ u, u ∈ us → gp_okB u) (hb : gp_okB b) (hr : gp_rB 1 0 M b) : ∃ M', f12_change M = some M' ∧ M'.2 = M.2 ∧ (∀ c, c ≠ 0 → c ≠ 33 → c ≠ 34 → M'.1 c = M.1 c) ∧ (∀ i, i ≠ 51 → M'.1 0 i = M.1 0 i) ∧ gp_uR M' ((if us.length = 10 then us.drop 1 else us) ++ [b]) := by
  obtain ⟨M1, e1, e2, e3, e4⟩ := gp_thenL (f := fun n a M => f12_change_2 n a M) (K := fun M1 => gz_bd (f12_note M1) fun M2 => some M2) (fun n M1 => by
    show f12_change_2 (n + 1) _ _ = _
    rw [f12_change_2, if_pos (show (106 : Int32) ≤ nI 106 by decide)]) (fun n i M1 hi => by
    show f12_change_2 (n + 1) _ _ = f12_change_2 n _ _
    rw [f12_change_2, if_neg (show ¬ (106 : Int32) ≤ nI i from nI_ge (b := 106) hi (by omega)), gp_ckb (show i < 106 by omega) (by omega), gp_ckb (show i < 106 by omega) (by omega), nI_clamp (by omega), gp_eL, gp_eL, nI_1]) M hb hr
  obtain ⟨M2, f1, f2, f3, f4, f5⟩ := gp_noteR (us := us) (h.fr (e3 33 (by omega)) (by rw [e3 0 (by omega)])) hl hok hb e4
  unfold f12_change
  refine ⟨M2, ?_, by rw [f2, e2], fun c c1 c2 c3 => by rw [f3 c c1 c2, e3 c c3], fun i hi => by rw [f4 i hi, e3 0 (by omega)], f5⟩
  rw [show f12_change_2 gz_FU 0 M = _ from e1, f1, gp_eB]
end
end
section
/-! promise 4: rules -/
section
variable {B : Prop} {pf pf' : Nat → Bool} {M M' Mc Mr Mc' Mr' : gz_M} {cu o : Nat} {x t l : List Nat} {b : gp_Bk} {us : List gp_Bk} {ks : Nat → Option gp_Bk}
theorem gp_neg1 : ∀ q : Nat, q < 81 → ¬ ((-1 : Int32) - nI q = 0) ∧ ¬ 0 ≤ (-1 : Int32) - nI q := by decide +kernel
theorem gp_neg100 : ∀ q : Nat, q < 4 → ¬ ((-100 : Int32) - nI q = 0) ∧ ¬ 0 ≤ (-100 : Int32) - nI q := by decide +kernel
theorem gp_emptyC (M : gz_M) : f10_empty M = some (gz_w M 1 1 0) := rfl
theorem gp_over_lt {u : Nat → Nat} {m : Nat} (h : gp_over u = some m) : m < 4 := by
  unfold gp_over at h
  split at h
  · cases h; omega
  · split at h
    · cases h; omega
    · split at h
      · cases h; omega
      · split at h
        · cases h; omega
        · cases h
theorem gp_over_no {u : Nat → Nat} (h : gp_over u = none) : ∀ m, m < 4 → u m ≤ 10 := by
  unfold gp_over at h
  split at h
  · cases h
  · split at h
    · cases h
    · split at h
      · cases h
      · split at h
        · cases h
        · intro m hm
          obtain h | h | h | h : m = 0 ∨ m = 1 ∨ m = 2 ∨ m = 3 := by omega
          all_goals subst h; omega
theorem gp_crowdA (M : gz_M) : ∃ v, f12_crowded M = some (v, M) := by
  have st : ∀ (m n : Nat), m < 4 → (∃ v, f12_crowded_2 n (nI (m + 1)) M = some (v, M)) → ∃ v, f12_crowded_2 (n + 1) (nI m) M = some (v, M) := fun m n hm h => by
    rw [f12_crowded_2, if_neg (show ¬ (4 : Int32) ≤ nI m from nI_ge (b := 4) (by omega) (by omega)), gp_ckb hm (by omega)]
    split
    · rw [gp_eL, nI_1]
      exact h
    · exact ⟨_, rfl⟩
  have e4 : ∃ v, f12_crowded_2 (999995 + 1) (nI 4) M = some (v, M) := ⟨-1, by rw [f12_crowded_2, if_pos (by decide)]⟩
  unfold f12_crowded
  rw [show (0 : Int32) = nI 0 from rfl, show gz_FU = 999995 + 1 + 1 + 1 + 1 + 1 from rfl]
  exact st 0 _ (by omega) (st 1 _ (by omega) (st 2 _ (by omega) (st 3 _ (by omega) e4)))
theorem gp_xC0 (M : gz_M) (h : M.1 1 1 = 0) : gp_xC M [] := ⟨by simp, by rw [h]; rfl, fun i hi => absurd hi (by simp)⟩
theorem gp_txR0 (M : gz_M) (h : M.1 0 2 = 0) : gp_txR M [] := ⟨by simp, by rw [h]; rfl, fun i hi => absurd hi (by simp)⟩
/-- the text is emptied, nothing else is done -/
theorem gp_RI.emp (h : gp_RI B pf cu Mc Mr x b us ks o) (ec2 : Mc'.2 = Mc.2) (ec : ∀ c, c ≠ 1 → c ≠ 3 → Mc'.1 c = Mc.1 c) (ec1 : Mc'.1 1 1 = 0) (er2 : Mr'.2 = Mr.2) (er : ∀ c, c = 1 ∨ 14 < c → c ≠ 15 → c ≠ 35 → Mr'.1 c = Mr.1 c) (er4 : Mr'.1 0 4 = Mr.1 0 4) (er51 : Mr'.1 0 51 = Mr.1 0 51) (er0 : Mr'.1 0 2 = 0) (ht : gp_tR Mr' (gp_tab b.1)) : gp_RI B pf cu Mc' Mr' [] b us ks o := by
  obtain ⟨⟨q1, q2, q3, q4, q5, q6, q7, q8⟩, h2, h3, h4, h5, h6, h7, h8, h9, h10, h11⟩ := h
  have hcu := q6.1
  refine ⟨⟨q1, q2.fr (fun c c1 c2 => ec c (by omega) (by omega)), ht, q4.fr (fun c c1 c2 => ec c (by omega) (by omega)), q5.fr (er 1 (by omega) (by omega) (by omega)), ⟨q6.1, by rw [ec 0 (by omega) (by omega)]; exact q6.2.1, q6.2.2.1.fr (fun c c1 c2 => ec c (by omega) (by omega)), q6.2.2.2⟩, by rw [ec 0 (by omega) (by omega)]; exact q7, q8.fr ec2 (by rw [ec 0 (by omega) (by omega)]) er2 er4⟩, h2, gp_xC0 _ ec1, gp_txR0 _ er0, ?_, h6.fr (er 1 (by omega) (by omega) (by omega)), h7, h8.fr (fun c hc => ec c (by omega) (by omega)), h9, h10.fr (er 33 (by omega) (by omega) (by omega)) er51, h11.fr (fun _ _ _ => rfl) (fun c hc => ec c (by omega) (by omega)) (fun c hc => er c (by omega) (by omega) (by omega))⟩
  obtain ⟨a1, a2, a3⟩ := h5
  exact ⟨a1, by rw [ec 7 (by omega) (by omega)]; exact a2, fun i hi => by rw [ec 8 (by omega) (by omega)]; exact a3 i hi⟩
theorem gp_a4 (h : gp_RI B pf cu Mc Mr x b us ks o) : gp_call B (g11_rules Mc pf) (f12_rules Mr) := by
  have hR := h
  obtain ⟨⟨q1, q2, q3, q4, q5, q6, q7, q8⟩, h2, h3, h4, h5, h6, h7, h8, h9, h10, h11⟩ := h
  have h80 := h3.1
  have hcu := q6.1
  have hus := h8.2.1
  -- the component
  obtain ⟨C1, c1, c2⟩ := gp_fltC h3
  -- the reference, till the letters are asked
  obtain ⟨M2, b1, b2, b3⟩ := gp_begin (M := gz_w Mr 0 5 0) (h4.fr (gp_wc _ (by omega)) (gp_gn (by omega)))
  obtain ⟨v4, M5, r1, r2, r3⟩ := gp_rdRules b3
  have m5_2 : M5.2 = Mr.2 := by rw [r2.1, b2.1]; rfl
  have m5_c : ∀ c, c ≠ 0 → c < 4 ∨ 14 < c → M5.1 c = Mr.1 c := fun c h1 h2 => by rw [r2.2.1 c h1 (by omega), b2.2.1 c h1 (by omega), gp_wc _ h1]
  have m5_0 : ∀ i, i ≠ 2 → i ≠ 5 → i ≠ 7 → i ≠ 8 → i ≠ 9 → i ≠ 10 → i < 21 ∨ 24 < i → M5.1 0 i = Mr.1 0 i := fun i a1 a2 a3 a4 a5 a6 a7 => by rw [r2.2.2 i (by omega), b2.2.2.1 i a1 a3 a4 a5, gp_gn (by omega)]
  have m5_02 : M5.1 0 2 = 0 := by rw [r2.2.2 2 (by omega)]; exact b2.2.2.2
  have rb5 : gp_rB 1 0 M5 b := h6.fr (m5_c 1 (by omega) (by omega))
  -- refused: rules are laid again
  have lay5 : ∃ M6, f12_layRules 1 M5 = some M6 ∧ gp_lyL M5 M6 ∧ gp_tR M6 (gp_tab b.1) := gp_lay ⟨by omega, by omega⟩ h2.1 h2.2.1 rb5.1 (fun i hi => by have := rb5.2.1 i hi; rw [Nat.zero_add] at this; exact this)
  have ref : ∀ v, g11_rules Mc pf = some (v, gz_w C1 1 1 0, pf) → (∀ M6, f12_layRules 1 M5 = some M6 → f12_rules Mr = some (v, M6)) → gp_call B (g11_rules Mc pf) (f12_rules Mr) := fun v e1 e2 => by
    obtain ⟨M6, l1, l2, l3⟩ := lay5
    refine ⟨v, _, pf, M6, e1, e2 M6 l1, cu, [], b, us, ks, o, hR.emp (by rw [gp_gl, c2.1]) (fun c a1 a2 => by rw [gp_wc _ a1, c2.2 c a2]) (gp_gs _ _ _ _) (by rw [l2.1, m5_2]) (fun c a1 a2 a3 => by rw [l2.2.1 c (by omega) (by omega), m5_c c (by omega) (by omega)]) ?_ ?_ ?_ l3⟩
    · rw [l2.2.2 4 (by omega), m5_0 4 (by omega) (by omega) (by omega) (by omega) (by omega) (by omega) (by omega)]
    · rw [l2.2.2 51 (by omega), m5_0 51 (by omega) (by omega) (by omega) (by omega) (by omega) (by omega) (by omega)]
    · rw [l2.2.2 2 (by omega), m5_02]
  have start : f12_rules Mr = (gz_bd2 (f12_crowded M5) fun v8 M9 => gz_lt (M9.1 0 10) fun v11 => if v4 = 0 then (f12_rules_98 v4 (M5.1 0 9) v8 v11 M9) else (if v8 = (-1) then (gz_bd (f12_change M9) fun M14 => gz_ck (gz_inb 0 106) <| gz_lt (gz_w M14 1 (0 : Int32).toNatClampNeg (M14.1 0 7)) fun M17 => f12_rules_56 gz_FU v4 (M5.1 0 9) v8 v11 0 M17) else (f12_rules_98 v4 (M5.1 0 9) v8 v11 M9))) := by
    unfold f12_rules
    rw [gp_eL, b1, gp_eB, r1, gp_eB2, gp_eL]
  rcases r3 with ⟨r3, r4⟩ | ⟨r3, r4, r5, r6, s, r7, r8, r9, r10⟩
  · -- a sign that can't stand there
    obtain ⟨q, z1, z2, z3⟩ := gp_bad_flt r4
    obtain ⟨n1, n2⟩ := gp_neg1 q (by omega)
    obtain ⟨vc, cr⟩ := gp_crowdA M5
    refine ref ((-1) - nI q) ?_ (fun M6 l1 => ?_)
    · unfold g11_rules
      rw [c1, z2, gp_eB2]
      rw [if_neg (show ¬ gp_ans1 (some q) = 0 from n1)]
      unfold g11_rules_28
      rw [if_neg (show ¬ gp_ans1 (some q) = 0 from n1)]
      unfold g11_rules_58
      rw [gp_emptyC, gp_eB, if_neg (show ¬ 0 ≤ gp_ans1 (some q) from n2)]
      rfl
    · rw [start, cr, gp_eB2, gp_eL, if_pos r3]
      unfold f12_rules_98
      rw [l1, gp_eB, if_pos r3, z3]
  · have hflt : gp_flt x = none := gp_flt_no r7 r8
    have hlet := gp_folC (M := C1) (h3.fr (c2.2 1 (by omega)) (c2.2 2 (by omega))) r7
    have hcr : f12_crowded M5 = some (gp_o (gp_over (s.2.1.2.2 7)), M5) := gp_crowd (fun m hm => ⟨by rw [(r6.2.2 m hm).1, r9], r10 m⟩)
    have hv4 : ¬ v4 = 0 := by rw [r3]; decide
    cases hov : gp_over (s.2.1.2.2 7) with
    | some m =>
      -- too many letters
      have hm := gp_over_lt hov
      obtain ⟨n1, n2⟩ := gp_neg100 m hm
      rw [hov] at hlet hcr
      refine ref ((-100) - nI m) ?_ (fun M6 l1 => ?_)
      · unfold g11_rules
        rw [c1, hflt, gp_eB2, if_pos (show gp_ans1 none = 0 from rfl), hlet, gp_eB2]
        unfold g11_rules_28
        rw [if_neg (show ¬ gp_ans2 (some m) = 0 from n1)]
        unfold g11_rules_58
        rw [gp_emptyC, gp_eB, if_neg (show ¬ 0 ≤ gp_ans2 (some m) from n2)]
        rfl
      · have hm1 : ¬ gp_o (some m) = -1 := by rw [gp_oS, gp_m1, gp_ne1 (by omega)]; exact id
        rw [start, hcr, gp_eB2, gp_eL, if_neg hv4, if_neg hm1]
        unfold f12_rules_98
        rw [l1, gp_eB, if_neg hv4, if_neg hm1, gp_oS]
    | none =>
      rw [hov] at hlet hcr
      have hokx : gp_ok x := ⟨h80, s, r7, r8, gp_over_no hov⟩
      have hbx : ∀ i, i < x.length → x.getD i 0 < 256 := fun i hi => (h3.2.2 i hi).2
      have hokB : gp_okB (x, b.2) := ⟨hokx, hbx, h2.2.2.1, h2.2.2.2⟩
      have hwx := gp_tab_w hbx hokx
      -- the component
      have c1c : ∀ c, c ≠ 3 → C1.1 c = Mc.1 c := c2.2
      obtain ⟨C2, pf', o', p1, p2, p3, p4, p5, p6⟩ := gp_pushG (M := C1) (b := b) h7 (h8.fr (fun c hc => c1c c (by omega))) ⟨⟨h5.1, by rw [c1c 7 (by omega)]; exact h5.2.1, fun i hi => by rw [c1c 8 (by omega)]; exact h5.2.2 i hi⟩, q4.fr (fun c e1 e2 => c1c c (by omega))⟩
      have c2c : ∀ c, c ≠ 3 → c ≠ 131 → c < 135 ∨ 175 ≤ c → C2.1 c = Mc.1 c := fun c e1 e2 e3 => by rw [p3 c e2 e3, c1c c e1]
      obtain ⟨C3, hC3⟩ : ∃ C3, C3 = gz_w (gz_cp C2 2 8 0 0 80) 7 1 ((gz_cp C2 2 8 0 0 80).1 1 1) := ⟨_, rfl⟩
      have c3c : ∀ c, c ≠ 7 → c ≠ 8 → C3.1 c = C2.1 c := fun c e1 e2 => by rw [hC3, gp_wc _ e1, gp_cp_c e2]
      have hx3 : gp_xK 7 C3 x := by
        refine ⟨h80, ?_, fun i hi => ⟨?_, hbx i hi⟩⟩
        · rw [hC3, gp_gs, gp_cp_c (by omega), c2c 1 (by omega) (by omega) (by omega)]
          exact h3.2.1
        · rw [hC3, gp_gn (by omega), gp_cp_i (by omega), c2c 2 (by omega) (by omega) (by omega)]
          exact (h3.2.2 i hi).1
      have hl3 : gp_lC 9 C3 b.2 := q4.fr (fun c e1 e2 => by rw [c3c c (by omega) (by omega), c2c c (by omega) (by omega) (by omega)])
      obtain ⟨C4, f1, f2, f3, f4, f5⟩ := gp_refresh hokx hx3 hl3 hcu (by rw [c3c 0 (by omega) (by omega), c2c 0 (by omega) (by omega) (by omega)]; exact q6.2.1)
      have eC : g11_rules Mc pf = some (nI (gp_tab x).1, gz_w C4 1 1 0, pf') := by
        unfold g11_rules
        rw [c1, hflt, gp_eB2, if_pos (show gp_ans1 none = 0 from rfl), hlet, gp_eB2]
        unfold g11_rules_28
        rw [if_pos (show gp_ans2 none = 0 from rfl), show decide (0 + 1 ≤ 1) = true from by decide, gp_eC, p1, gp_eB2]
        unfold f0_takeRules
        rw [gp_eL, gp_eL, gp_eB, ← hC3, f1, gp_eB]
        unfold g11_rules_58
        rw [gp_emptyC, gp_eB, if_pos (show 0 ≤ gp_ans2 none from by decide), gp_wc _ (by omega), f4.1]
      -- the reference
      obtain ⟨M14, d1, d2, d3, d4, d5⟩ := gp_chgR (M := M5) (us := us) (b := b) (h10.fr (m5_c 33 (by omega) (by omega)) (m5_0 51 (by omega) (by omega) (by omega) (by omega) (by omega) (by omega) (by omega))) hus h9 h2 rb5
      have m7 : M14.1 0 7 = nI x.length := by rw [d4 7 (by omega)]; exact r4.2.2.1
      have m4 : ∀ i, i < x.length → M14.1 4 i = nI (x.getD i 0) := fun i hi => by rw [d3 4 (by omega) (by omega) (by omega)]; exact (r4.2.2.2.2.2 i hi).1
      obtain ⟨M17, hM17⟩ : ∃ M17, M17 = gz_w M14 1 0 (nI x.length) := ⟨_, rfl⟩
      have e56 : f12_rules_56 gz_FU v4 (M5.1 0 9) (gp_o none) (M5.1 0 10) (nI 0) M17 = f12_rules_98 v4 (M5.1 0 9) (gp_o none) (M5.1 0 10) (gp_fl M17 1 1 80 (fun i => if x.length ≤ i then 0 else nI (x.getD i 0))) := by
        refine gp_fl_l (M := M17) (c := 1) (o := 1) (N := 80) (v := fun i => if x.length ≤ i then 0 else nI (x.getD i 0)) (fun n a M => f12_rules_56 n v4 (M5.1 0 9) (gp_o none) (M5.1 0 10) a M) (fun M1 => f12_rules_98 v4 (M5.1 0 9) (gp_o none) (M5.1 0 10) M1) (fun n => ?_) (fun n i hi => ?_) gz_FU (by unfold gz_FU; omega)
        · show f12_rules_56 (n + 1) _ _ _ _ _ _ = _
          rw [f12_rules_56, if_pos (show (80 : Int32) ≤ nI 80 by decide)]
        · show f12_rules_56 (n + 1) _ _ _ _ _ _ = f12_rules_56 n _ _ _ _ _ _
          have e7 : (gp_fl M17 1 1 i (fun i => if x.length ≤ i then 0 else nI (x.getD i 0))).1 0 7 = nI x.length := by rw [gp_fl_c (by omega), hM17, gp_gn (by omega), m7]
          have e1 : (1 : Int32) + nI i = nI (1 + i) := by rw [show (1 : Int32) = nI 1 from rfl, nI_add]
          rw [f12_rules_56, if_neg (show ¬ (80 : Int32) ≤ nI i from nI_ge (b := 80) hi (by omega)), e7, e1]
          by_cases hxi : x.length ≤ i
          · rw [if_pos (nI_le hxi (by omega)), gp_ckb (show 1 + i < 106 by omega) (by omega), nI_clamp (by omega), gp_eL, gp_eL, nI_1]
            show f12_rules_56 n _ _ _ _ _ (gz_w _ _ _ _) = f12_rules_56 n _ _ _ _ _ (gz_w _ _ _ (if x.length ≤ i then 0 else nI (x.getD i 0)))
            rw [if_pos hxi]
          · rw [if_neg (nI_ge (by omega) (by omega)), gp_ckb (show i < 80 by omega) (by omega), gp_ckb (show 1 + i < 106 by omega) (by omega), nI_clamp (by omega), nI_clamp (by omega), gp_fl_c (by omega), hM17, gp_wc _ (by omega), m4 i (by omega), gp_eL, gp_eL, nI_1]
            show f12_rules_56 n _ _ _ _ _ (gz_w _ _ _ _) = f12_rules_56 n _ _ _ _ _ (gz_w _ _ _ (if x.length ≤ i then 0 else nI (x.getD i 0)))
            rw [if_neg hxi]
      obtain ⟨M18, hM18⟩ : ∃ M18, M18 = gp_fl M17 1 1 80 (fun i => if x.length ≤ i then 0 else nI (x.getD i 0)) := ⟨_, rfl⟩
      rw [← hM18] at e56
      have m18c : ∀ c, c ≠ 1 → M18.1 c = M14.1 c := fun c hc => by rw [hM18, gp_fl_c hc, hM17, gp_wc _ hc]
      have m18h : ∀ i, 81 ≤ i → M18.1 1 i = Mr.1 1 i := fun i hi => by rw [hM18, gp_fl_n (by omega), hM17, gp_gn (by omega), d3 1 (by omega) (by omega) (by omega), m5_c 1 (by omega) (by omega)]
      have rb18 : gp_rB 1 0 M18 (x, b.2) := by
        refine ⟨?_, fun i hi => ?_, ?_, fun i hi => ?_⟩
        · rw [hM18, gp_fl_n (by omega), hM17, gp_gs]
        · have hi : i < x.length := hi
          rw [Nat.zero_add, hM18, gp_fl_i (by omega)]
          show (if x.length ≤ i then 0 else nI (x.getD i 0)) = nI (x.getD i 0)
          rw [if_neg (by omega)]
        · rw [m18h _ (by omega)]; exact h6.2.2.1
        · rw [m18h _ (by omega)]; exact h6.2.2.2 i hi
      obtain ⟨M19, l1, l2, l3⟩ := gp_lay (M := M18) (k0 := 1) ⟨by omega, by omega⟩ hokx hbx rb18.1 (fun i hi => by have := rb18.2.1 i hi; rw [Nat.zero_add] at this; exact this)
      have eR : f12_rules Mr = some (nI (gp_tab x).1, M19) := by
        rw [start, hcr, gp_eB2, gp_eL, if_neg hv4, if_pos (show gp_o none = -1 from rfl), d1, gp_eB, show gz_inb 0 106 = true from gp_inb (i := 0) (by omega) (by omega), gp_eC, show (0 : Int32).toNatClampNeg = 0 from rfl, m7, gp_eL, ← hM17, show (0 : Int32) = nI 0 from rfl, e56]
        unfold f12_rules_98
        rw [l1, gp_eB, if_neg hv4, if_pos (show gp_o none = -1 from rfl), r5]
      have c4c : ∀ c, c ≠ 1 → (gz_w C4 1 1 0).1 c = C4.1 c := fun c hc => gp_wc _ hc
      have c4o : ∀ c, c ≠ 1 → c ≠ 3 → c ≠ 4 → c ≠ 5 → c ≠ 6 → c ≠ 7 → c ≠ 8 → c < 11 ∨ 29 < c → c < cu ∨ cu + 9 ≤ c → (gz_w C4 1 1 0).1 c = C2.1 c := fun c a1 a2 a3 a4 a5 a6 a7 a8 a9 => by rw [c4c c a1, f3 c a3 a4 a5 a8 a9, c3c c a6 a7]
      have m19c : ∀ c, c ≠ 0 → c < 4 ∨ 14 < c → M19.1 c = M18.1 c := fun c a1 a2 => l2.2.1 c a1 a2
      refine ⟨_, _, pf', M19, eC, eR, cu, [], (x, b.2), _, ks, o', ⟨hwx, f4.fr (fun c a1 a2 => c4c c (by omega)), l3, ?_, ?_, ⟨hcu, ?_, f5.fr (fun c a1 a2 => c4c c (by omega)), gp_cut_len⟩, ?_, ?_⟩, hokB, gp_xC0 _ (gp_gs _ _ _ _), gp_txR0 _ ?_, ?_, rb18.fr (m19c 1 (by omega) (by omega)), p4, p6.fr (fun c hc => c4o c (by omega) (by omega) (by omega) (by omega) (by omega) (by omega) (by omega) (by omega) (by omega)), ?_, d5.fr ?_ ?_, ?_⟩
      · exact hl3.fr (fun c a1 a2 => by rw [c4c c (by omega), f3 c (by omega) (by omega) (by omega) (by omega) (by omega)])
      · exact (rb18.fr (m19c 1 (by omega) (by omega))).lR hokB
      · rw [c4c 0 (by omega), f3 0 (by omega) (by omega) (by omega) (by omega) (by omega), c3c 0 (by omega) (by omega), c2c 0 (by omega) (by omega) (by omega)]
        exact q6.2.1
      · rw [c4c 0 (by omega), f3 0 (by omega) (by omega) (by omega) (by omega) (by omega), c3c 0 (by omega) (by omega), c2c 0 (by omega) (by omega) (by omega)]
        exact q7
      · refine q8.fr ?_ ?_ ?_ ?_
        · rw [gp_gl, f2, hC3, gp_gl]
          show C2.2 = _
          rw [p2, c2.1]
        · rw [c4c 0 (by omega), f3 0 (by omega) (by omega) (by omega) (by omega) (by omega), c3c 0 (by omega) (by omega), c2c 0 (by omega) (by omega) (by omega)]
        · rw [l2.1, hM18, gp_fl_2, hM17, gp_gl, d2, m5_2]
        · rw [l2.2.2 4 (by omega), m18c 0 (by omega), d4 4 (by omega), m5_0 4 (by omega) (by omega) (by omega) (by omega) (by omega) (by omega) (by omega)]
      · rw [l2.2.2 2 (by omega), m18c 0 (by omega), d4 2 (by omega), m5_02]
      · refine ⟨hx3.1, ?_, fun i hi => ⟨?_, hbx i hi⟩⟩
        · rw [c4c 7 (by omega), f3 7 (by omega) (by omega) (by omega) (by omega) (by omega)]
          exact hx3.2.1
        · rw [c4c 8 (by omega), f3 8 (by omega) (by omega) (by omega) (by omega) (by omega)]
          exact (hx3.2.2 i hi).1
      · intro u hu
        rcases List.mem_append.mp hu with hu | hu
        · split at hu
          · exact h9 u (List.mem_of_mem_drop hu)
          · exact h9 u hu
        · rw [List.mem_singleton.mp hu]
          exact h2
      · rw [m19c 33 (by omega) (by omega), m18c 33 (by omega)]
      · rw [l2.2.2 51 (by omega), m18c 0 (by omega)]
      · exact h11.fr p5 (fun c hc => by rw [c4o c (by omega) (by omega) (by omega) (by omega) (by omega) (by omega) (by omega) (by omega) (by omega), c2c c (by omega) (by omega) (by omega)]) (fun c hc => by rw [m19c c (by omega) (by omega), m18c c (by omega), d3 c (by omega) (by omega) (by omega), m5_c c (by omega) (by omega)])
end
end
section
/-! promises 2, 3: sign, end -/
section
variable {B : Prop} {pf pf' : Nat → Bool} {M M' Mc Mr Mc' Mr' : gz_M} {cu o : Nat} {x x' t l : List Nat} {b : gp_Bk} {us : List gp_Bk} {ks : Nat → Option gp_Bk}
/-- the text alone is another -/
theorem gp_RI.tx (h : gp_RI B pf cu Mc Mr x b us ks o) (ec2 : Mc'.2 = Mc.2) (ec : ∀ c, c ≠ 1 → c ≠ 2 → Mc'.1 c = Mc.1 c) (er2 : Mr'.2 = Mr.2) (er : ∀ c, c ≠ 0 → c ≠ 2 → Mr'.1 c = Mr.1 c) (er0 : ∀ i, i ≠ 2 → i ≠ 5 → Mr'.1 0 i = Mr.1 0 i) (hx : gp_xC Mc' x') (hr : gp_txR Mr' x') : gp_RI B pf cu Mc' Mr' x' b us ks o := by
  obtain ⟨⟨q1, q2, q3, q4, q5, q6, q7, q8⟩, h2, h3, h4, h5, h6, h7, h8, h9, h10, h11⟩ := h
  have hcu := q6.1
  refine ⟨⟨q1, q2.fr (fun c c1 c2 => ec c (by omega) (by omega)), q3.fr (fun c c1 c2 => er c (by omega) (by omega)) (er0 10 (by omega) (by omega)), q4.fr (fun c c1 c2 => ec c (by omega) (by omega)), q5.fr (er 1 (by omega) (by omega)), ⟨q6.1, by rw [ec 0 (by omega) (by omega)]; exact q6.2.1, q6.2.2.1.fr (fun c c1 c2 => ec c (by omega) (by omega)), q6.2.2.2⟩, by rw [ec 0 (by omega) (by omega)]; exact q7, q8.fr ec2 (by rw [ec 0 (by omega) (by omega)]) er2 (er0 4 (by omega) (by omega))⟩, h2, hx, hr, ?_, h6.fr (er 1 (by omega) (by omega)), h7, h8.fr (fun c hc => ec c (by omega) (by omega)), h9, h10.fr (er 33 (by omega) (by omega)) (er0 51 (by omega) (by omega)), h11.fr (fun _ _ _ => rfl) (fun c hc => ec c (by omega) (by omega)) (fun c hc => er c (by omega) (by omega))⟩
  obtain ⟨a1, a2, a3⟩ := h5
  exact ⟨a1, by rw [ec 7 (by omega) (by omega)]; exact a2, fun i hi => by rw [ec 8 (by omega) (by omega)]; exact a3 i hi⟩
theorem gp_and255 (z : Int32) : z &&& 255 = nI (z.toBitVec.toNat % 256) := by
  apply Int32.toBitVec_inj.mp
  apply BitVec.eq_of_toNat_eq
  have h1 : (z &&& 255).toBitVec.toNat = z.toBitVec.toNat &&& 255 := by
    rw [Int32.toBitVec_and, BitVec.toNat_and]
    rfl
  have h2 : (nI (z.toBitVec.toNat % 256)).toBitVec.toNat = z.toBitVec.toNat % 256 := by
    have := Nat.mod_lt z.toBitVec.toNat (show 256 > 0 by omega)
    show (BitVec.ofNat 32 _).toNat = _
    rw [BitVec.toNat_ofNat]
    omega
  rw [h1, h2]
  exact Nat.and_two_pow_sub_one_eq_mod _ 8
theorem gp_shB (a s : Int32) {k : Nat} (hk : k = 0 ∨ k = 8 ∨ k = 16 ∨ k = 24) (hs : (s.toBitVec.smod 32).toNat = k) : (a >>> s).toBitVec.toNat % 256 = a.toBitVec.toNat / 2 ^ k % 256 := by
  have h1 := pk_shr a s k hs
  have h2 : (a >>> s).toBitVec.toInt = a.toBitVec.toInt >>> k := h1
  rw [BitVec.toInt_eq_toNat_cond, BitVec.toInt_eq_toNat_cond, Int.shiftRight_eq_div_pow] at h2
  have b1 := (a >>> s).toBitVec.isLt
  have b2 := a.toBitVec.isLt
  generalize (a >>> s).toBitVec.toNat = u at h2 b1 ⊢
  generalize a.toBitVec.toNat = w at h2 b2 ⊢
  rw [show (2 : Nat) ^ 32 = 4294967296 from rfl] at h2 b1 b2
  rcases hk with rfl | rfl | rfl | rfl
  · rw [show (2 : Nat) ^ 0 = 1 from rfl] at h2 ⊢
    split at h2 <;> split at h2 <;> omega
  · rw [show (2 : Nat) ^ 8 = 256 from rfl] at h2 ⊢
    split at h2 <;> split at h2 <;> omega
  · rw [show (2 : Nat) ^ 16 = 65536 from rfl] at h2 ⊢
    split at h2 <;> split at h2 <;> omega
  · rw [show (2 : Nat) ^ 24 = 16777216 from rfl] at h2 ⊢
    split at h2 <;> split at h2 <;> omega
theorem gp_bpb (x : Int32) : x.toInt8.toInt32 &&& 255 = x &&& 255 := by
  apply Int32.toBitVec_inj.mp
  rw [Int32.toBitVec_and, Int32.toBitVec_and, Int8.toBitVec_toInt32, Int32.toBitVec_toInt8]
  apply BitVec.eq_of_getLsbD_eq
  intro i hi
  rw [BitVec.getLsbD_and, BitVec.getLsbD_and]
  have hm : ∀ i < 32, 8 ≤ i → (255 : Int32).toBitVec.getLsbD i = false := by decide
  rcases Nat.lt_or_ge i 8 with z | z
  · rw [BitVec.getLsbD_signExtend, BitVec.getLsbD_signExtend, if_pos z, if_pos hi]
    simp only [z, hi, decide_true, Bool.true_and]
  · rw [hm i hi z]; simp
theorem gp_snocC {M : gz_M} {y : Nat} (h : gp_xC M x) (hl : x.length < 80) (hy : y < 256) : gp_xC (gz_w (gz_w M 2 x.length (nI y)) 1 1 (nI (x.length + 1))) (x ++ [y]) := by
  obtain ⟨h1, h2, h3⟩ := h
  refine ⟨by simp; omega, by rw [gp_gs]; simp, fun i hi => ?_⟩
  have hi : i < x.length + 1 := by simpa using hi
  rw [gp_gn (by omega)]
  by_cases e : i = x.length
  · rw [e, gp_gs, gp_getD_r]
    exact ⟨rfl, hy⟩
  · rw [gp_gn (by omega), gp_getD_l (by omega)]
    exact h3 i (by omega)
theorem gp_snocR {M : gz_M} {y : Nat} {v : Int32} (h : gp_txR M x) (hl : x.length < 80) (hy : y < 256) (hv : v &&& 255 = nI y) : gp_txR (gz_w (gz_w M 0 2 (nI (x.length + 1))) 2 x.length v) (x ++ [y]) := by
  obtain ⟨h1, h2, h3⟩ := h
  refine ⟨by simp; omega, by rw [gp_gn (by omega), gp_gs]; simp, fun i hi => ?_⟩
  have hi : i < x.length + 1 := by simpa using hi
  by_cases e : i = x.length
  · rw [e, gp_gs, gp_getD_r]
    exact ⟨hv, hy⟩
  · rw [gp_gn (by omega), gp_gn (by omega), gp_getD_l (by omega)]
    exact h3 i (by omega)
def gp_by (a : Int32) (k : Nat) : Nat := a.toBitVec.toNat / 2 ^ k % 256
theorem gp_by_lt (a : Int32) (k : Nat) : gp_by a k < 256 := Nat.mod_lt _ (by omega)
theorem gp_byC (a s : Int32) {k : Nat} (hs : ((s.toUInt32 &&& Int32.toUInt32 31).toBitVec % 32).toNat = k) : gz_ushr a s &&& 255 = nI (gp_by a k) := by
  rw [gp_and255]
  unfold gz_ushr gp_by
  rw [pk_ushr a s k hs]
theorem gp_byR (a s : Int32) {k : Nat} (hk : k = 0 ∨ k = 8 ∨ k = 16 ∨ k = 24) (hs : ((s &&& 31).toBitVec.smod 32).toNat = k) : vp_nar .byte ((gz_shr a s).toInt8.toInt32) &&& 255 = nI (gp_by a k) := by
  rw [pk_vb, gp_bpb, gp_and255]
  unfold gz_shr gp_by
  rw [gp_shB a _ hk hs]
theorem gp_sgC (a : Int32) {n : Nat} {sh : Int32} {k : Nat} (h0 : ¬ sh < 0) (hs : ((sh.toUInt32 &&& Int32.toUInt32 31).toBitVec % 32).toNat = k) (h : gp_xC M x) (hl : x.length < 80) : f10_addFour_21 (n + 1) a sh M = f10_addFour_21 n a (sh + (-8)) (gz_w (gz_w M 2 x.length (nI (gp_by a k))) 1 1 (nI (x.length + 1))) := by
  rw [f10_addFour_21, if_neg h0, h.2.1, gp_ckb hl (by omega), nI_clamp (by omega), gp_byC a sh hs, gp_eL, gp_gn (by omega), h.2.1, nI_1, gp_eL, gp_eL]
theorem gp_sgR (a : Int32) {n : Nat} {sh : Int32} (h0 : ¬ sh < 0) (h : gp_txR M x) (hl : x.length < 80) : f12_sign_20 (n + 1) a sh M = f12_sign_20 n a (sh + (-1)) (gz_w (gz_w M 0 2 (nI (x.length + 1))) 2 x.length (vp_nar .byte ((gz_shr a (8 * sh)).toInt8.toInt32))) := by
  rw [f12_sign_20, if_neg h0, gp_eL, h.2.1, nI_1, gp_eL, gp_ckb hl (by omega), nI_clamp (by omega), gp_eL, gp_eL]
theorem gp_a2 (h : gp_RI B pf cu Mc Mr x b us ks o) (a : Int32) : ∃ v Mc' Mr', f11_sign a Mc = some (v, Mc') ∧ f12_sign a Mr = some (v, Mr') ∧ gp_R B pf Mc' Mr' := by
  have hR := h
  obtain ⟨_, _, h3, h4, _⟩ := h
  have h80 := h3.1
  have h4' : gp_txR (gz_w Mr 0 5 0) x := h4.fr (gp_wc _ (by omega)) (gp_gn (by omega))
  by_cases hl : x.length ≤ 76
  · have l1 : (x ++ [gp_by a 24]).length = x.length + 1 := by simp
    have l2 : (x ++ [gp_by a 24] ++ [gp_by a 16]).length = x.length + 2 := by simp
    have l3 : (x ++ [gp_by a 24] ++ [gp_by a 16] ++ [gp_by a 8]).length = x.length + 3 := by simp
    have l4 : (x ++ [gp_by a 24] ++ [gp_by a 16] ++ [gp_by a 8] ++ [gp_by a 0]).length = x.length + 4 := by simp
    have c1 := gp_snocC h3 (by omega) (gp_by_lt a 24)
    have c2 := gp_snocC c1 (by omega) (gp_by_lt a 16)
    have c3 := gp_snocC c2 (by omega) (gp_by_lt a 8)
    have c4 := gp_snocC c3 (by omega) (gp_by_lt a 0)
    have r1 := gp_snocR h4' (by omega) (gp_by_lt a 24) (gp_byR a (8 * 3) (k := 24) (by omega) (by decide))
    have r2 := gp_snocR r1 (by omega) (gp_by_lt a 16) (gp_byR a (8 * 2) (k := 16) (by omega) (by decide))
    have r3 := gp_snocR r2 (by omega) (gp_by_lt a 8) (gp_byR a (8 * 1) (k := 8) (by omega) (by decide))
    have r4 := gp_snocR r3 (by omega) (gp_by_lt a 0) (gp_byR a (8 * 0) (k := 0) (by omega) (by decide))
    have eC : ∃ N, f10_addFour a Mc = some (1, N) ∧ gp_xC N (x ++ [gp_by a 24] ++ [gp_by a 16] ++ [gp_by a 8] ++ [gp_by a 0]) ∧ N.2 = Mc.2 ∧ ∀ c, c ≠ 1 → c ≠ 2 → N.1 c = Mc.1 c := by
      refine ⟨_, ?_, c4, rfl, fun c e1 e2 => ?_⟩
      · unfold f10_addFour
        rw [h3.2.1, if_neg (nI_pos (by omega)), if_pos (show nI x.length ≤ (76 : Int32) from nI_le (b := 76) hl (by omega)), show gz_FU = 999995 + 1 + 1 + 1 + 1 + 1 from rfl, gp_sgC a (k := 24) (by decide) (by decide) h3 (by omega), show (24 : Int32) + (-8) = 16 by decide, gp_sgC a (k := 16) (by decide) (by decide) c1 (by omega), show (16 : Int32) + (-8) = 8 by decide, gp_sgC a (k := 8) (by decide) (by decide) c2 (by omega), show (8 : Int32) + (-8) = 0 by decide, gp_sgC a (k := 0) (by decide) (by decide) c3 (by omega), f10_addFour_21, if_pos (by decide)]
      · rw [gp_wc _ e1, gp_wc _ e2, gp_wc _ e1, gp_wc _ e2, gp_wc _ e1, gp_wc _ e2, gp_wc _ e1, gp_wc _ e2]
    have eR : ∃ N, f12_sign a Mr = some (nI (x.length + 4), N) ∧ gp_txR N (x ++ [gp_by a 24] ++ [gp_by a 16] ++ [gp_by a 8] ++ [gp_by a 0]) ∧ N.2 = Mr.2 ∧ (∀ c, c ≠ 0 → c ≠ 2 → N.1 c = Mr.1 c) ∧ ∀ i, i ≠ 2 → i ≠ 5 → N.1 0 i = Mr.1 0 i := by
      refine ⟨_, ?_, r4, rfl, fun c e1 e2 => ?_, fun i e1 e2 => ?_⟩
      · unfold f12_sign
        rw [gp_eL, h4'.2.1, show (4 : Int32) = nI 4 from rfl, nI_add, if_pos (show nI (x.length + 4) ≤ (80 : Int32) from nI_le (b := 80) (by omega) (by omega)), show gz_FU = 999995 + 1 + 1 + 1 + 1 + 1 from rfl, gp_sgR a (by decide) h4' (by omega), show (3 : Int32) + (-1) = 2 by decide, gp_sgR a (by decide) r1 (by omega), show (2 : Int32) + (-1) = 1 by decide, gp_sgR a (by decide) r2 (by omega), show (1 : Int32) + (-1) = 0 by decide, gp_sgR a (by decide) r3 (by omega), f12_sign_20, if_pos (by decide), r4.2.1, l4]
      · rw [gp_wc _ e2, gp_wc _ e1, gp_wc _ e2, gp_wc _ e1, gp_wc _ e2, gp_wc _ e1, gp_wc _ e2, gp_wc _ e1, gp_wc _ e1]
      · rw [gp_gn (by omega), gp_gn (by omega), gp_gn (by omega), gp_gn (by omega), gp_gn (by omega), gp_gn (by omega), gp_gn (by omega), gp_gn (by omega), gp_gn (by omega)]
    obtain ⟨NC, eC1, eC2, eC3, eC4⟩ := eC
    obtain ⟨NR, eR1, eR2, eR3, eR4, eR5⟩ := eR
    refine ⟨nI (x.length + 4), NC, NR, ?_, eR1, cu, _, b, us, ks, o, hR.tx eC3 eC4 eR3 eR4 eR5 eC2 eR2⟩
    unfold f11_sign
    rw [eC1, gp_eB2, if_neg (by decide), eC2.2.1, l4]
  · refine ⟨-1, Mc, gz_w Mr 0 5 0, ?_, ?_, cu, x, b, us, ks, o, hR.tx rfl (fun _ _ _ => rfl) rfl (fun c e1 e2 => gp_wc _ e1) (fun i e1 e2 => gp_gn (by omega)) h3 h4'⟩
    · have e : f10_addFour a Mc = some (0, Mc) := by
        unfold f10_addFour
        rw [h3.2.1, if_neg (nI_pos (by omega)), if_neg (show ¬ nI x.length ≤ (76 : Int32) from nI_ge (a := 76) (by omega) (by omega))]
      unfold f11_sign
      rw [e, gp_eB2, if_pos rfl]
    · unfold f12_sign
      rw [gp_eL, h4'.2.1, show (4 : Int32) = nI 4 from rfl, nI_add, if_neg (show ¬ nI (x.length + 4) ≤ (80 : Int32) from nI_ge (a := 80) (by omega) (by omega))]
theorem gp_takeD {n i : Nat} (h : i < n) (x : List Nat) : (x.take n).getD i 0 = x.getD i 0 := by
  simp [List.getD, List.getElem?_take, h]
theorem gp_a3 (h : gp_RI B pf cu Mc Mr x b us ks o) (a : Int32) : ∃ v Mc' Mr', f11_end a Mc = some (v, Mc') ∧ f12_end a Mr = some (v, Mr') ∧ gp_R B pf Mc' Mr' := by
  have hR := h
  obtain ⟨_, _, h3, h4, _⟩ := h
  have h80 := h3.1
  have h4' : gp_txR (gz_w Mr 0 5 0) x := h4.fr (gp_wc _ (by omega)) (gp_gn (by omega))
  have no : f10_shorten a Mc = some (0, Mc) → f12_in a 0 (nI x.length) (gz_w Mr 0 5 0) = some (0, gz_w Mr 0 5 0) → ∃ v Mc' Mr', f11_end a Mc = some (v, Mc') ∧ f12_end a Mr = some (v, Mr') ∧ gp_R B pf Mc' Mr' := fun e1 e2 => by
    refine ⟨0, Mc, gz_w Mr 0 5 0, ?_, ?_, cu, x, b, us, ks, o, hR.tx rfl (fun _ _ _ => rfl) rfl (fun c e1 e2 => gp_wc _ e1) (fun i e1 e2 => gp_gn (by omega)) h3 h4'⟩
    · unfold f11_end
      rw [e1, gp_eB2, gp_b0, gp_eC]
    · unfold f12_end
      rw [gp_eL, h4'.2.1, e2, gp_eB2, if_pos rfl]
  rcases pk_ix a (n := x.length + 1) (by omega) with h | h | ⟨j, h1, rfl⟩
  · refine no ?_ ?_
    · unfold f10_shorten
      rw [if_pos h]
    · unfold f12_in
      rw [if_pos h]
  · have g : ¬ a ≤ nI x.length := fun g => by
      have g1 := Int32.le_iff_toInt_le.mp g
      have g2 := Int32.le_iff_toInt_le.mp h
      rw [nI_toInt (by omega)] at g1 g2
      omega
    have g0 : ¬ a < 0 := fun g => by
      have g1 := Int32.lt_iff_toInt_lt.mp g
      have g2 := Int32.le_iff_toInt_le.mp h
      rw [nI_toInt (by omega)] at g2
      rw [show ((0 : Int32)).toInt = 0 by decide] at g1
      omega
    have gl : nI x.length < a := by
      apply Int32.lt_iff_toInt_lt.mpr
      have g2 := Int32.le_iff_toInt_le.mp h
      rw [nI_toInt (by omega)] at g2 ⊢
      omega
    refine no ?_ ?_
    · unfold f10_shorten
      rw [if_neg g0, h3.2.1, if_neg g]
    · unfold f12_in
      rw [if_neg g0, if_pos gl]
  · refine ⟨1, gz_w Mc 1 1 (nI j), gz_w (gz_w Mr 0 5 0) 0 2 (nI j), ?_, ?_, cu, x.take j, b, us, ks, o, hR.tx rfl (fun c e1 e2 => gp_wc _ e1) rfl (fun c e1 e2 => by rw [gp_wc _ e1, gp_wc _ e1]) (fun i e1 e2 => by rw [gp_gn (by omega), gp_gn (by omega)]) ?_ ?_⟩
    · have e : f10_shorten (nI j) Mc = some (1, gz_w Mc 1 1 (nI j)) := by
        unfold f10_shorten
        rw [if_neg (nI_pos (by omega)), h3.2.1, if_pos (nI_le (by omega) (by omega)), gp_eL]
      unfold f11_end
      rw [e, gp_eB2, gp_b1, gp_eC]
    · have e : f12_in (nI j) 0 (nI x.length) (gz_w Mr 0 5 0) = some (1, gz_w Mr 0 5 0) := by
        unfold f12_in
        rw [if_neg (nI_pos (by omega)), if_neg (nI_nlt (by omega) (by omega))]
      unfold f12_end
      rw [gp_eL, h4'.2.1, e, gp_eB2, if_neg (by decide), gp_eL]
    · have hl : (x.take j).length = j := by simp; omega
      refine ⟨by omega, by rw [gp_gs, hl], fun i hi => ?_⟩
      rw [gp_gn (by omega), gp_takeD (by omega)]
      exact h3.2.2 i (by omega)
    · have hl : (x.take j).length = j := by simp; omega
      refine ⟨by omega, by rw [gp_gs, hl], fun i hi => ?_⟩
      rw [gp_gn (by omega), gp_takeD (by omega)]
      exact h4'.2.2 i (by omega)
end
end
section
/-! promises 6, 7, 40, 41: rule, at, count, row -/
section
variable {B : Prop} {M M' Mc Mr Mc' Mr' : gz_M} {cu k : Nat} {T : gp_T} {l : List Nat}
theorem gp_neg_of {a : Int32} {n : Nat} (hn : n < 2 ^ 31) (h : nI n ≤ a) : ¬ a < 0 := by
  intro hlt
  have a1 := Int32.le_iff_toInt_le.mp h
  have a2 := Int32.lt_iff_toInt_lt.mp hlt
  rw [nI_toInt (by omega)] at a1
  rw [show ((0 : Int32)).toInt = 0 by decide] at a2
  omega
theorem gp_nlt_of {a : Int32} {n : Nat} (h : nI n ≤ a) : ¬ a < nI n := by
  intro hlt
  have a1 := Int32.le_iff_toInt_le.mp h
  have a2 := Int32.lt_iff_toInt_lt.mp hlt
  omega
theorem gp_tneg {a : Int32} (h : a < 0) : a.toInt < 0 := by
  have := Int32.lt_iff_toInt_lt.mp h
  rwa [show ((0 : Int32)).toInt = 0 by decide] at this
theorem gp_tge {a : Int32} {n : Nat} (hn : n < 2 ^ 31) (h : nI n ≤ a) : (n : Int) ≤ a.toInt := by
  have := Int32.le_iff_toInt_le.mp h
  rwa [nI_toInt hn] at this
/-- neither told nor changed: a call that throws, or answers -/
theorem gp_ansX0 {V : Type} (h : gp_Q B cu Mc Mr T l) {v : V} {f : Option (Option V × gz_M)} {g : Option (V × gz_M)} (a : (f = some (none, Mc) ∧ g = some (v, gz_w (gz_w Mr 0 5 0) 0 5 1)) ∨ (f = some (some v, Mc) ∧ g = some (v, gz_w Mr 0 5 0))) : gp_ansX B cu Mc Mr f g := by
  have h8 := h.2.2.2.2.2.2.2
  rcases a with ⟨a1, a2⟩ | ⟨a1, a2⟩
  · exact ⟨none, v, Mc, _, a1, a2, Or.inl ⟨rfl, gp_gs _ _ _ _⟩, gp_qC.refl, (gp_thr 0).1.trans (gp_thr 1).1, h8.fr rfl rfl rfl ((gp_gn (by omega)).trans (gp_gn (by omega)))⟩
  · exact ⟨some v, v, Mc, _, a1, a2, Or.inr ⟨rfl, gp_gs _ _ _ _⟩, gp_qC.refl, (gp_thr 0).1, h8.fr rfl rfl rfl (gp_gn (by omega))⟩
theorem gp_a6 (h : gp_Q B cu Mc Mr T l) (a w : Int32) : gp_ansX B cu Mc Mr (f11_rule a w Mc) (f12_rule a w Mr) := by
  have hq := h
  obtain ⟨h1, h2, h3, h4, h5, h6, h7, h8⟩ := h
  have ht := h1.1
  have n0 : (gz_w Mr 0 5 0).1 0 10 = nI T.1 := by rw [gp_gn (by omega)]; exact h3.1
  rcases pk_ix a (n := T.1) (by omega) with ha | ha | ⟨j, hj, rfl⟩
  · refine gp_ansX0 (v := 0) hq (Or.inl ⟨?_, ?_⟩)
    · unfold f11_rule; rw [if_pos ha]; rfl
    · unfold f12_rule; rw [gp_eL, n0, gp_in0 _ _ ha]; rfl
  · have h0 := gp_neg_of (by omega) ha
    refine gp_ansX0 (v := 0) hq (Or.inl ⟨?_, ?_⟩)
    · unfold f11_rule; rw [if_neg h0, h2.1, if_neg (gp_nlt_of ha)]; rfl
    · unfold f12_rule; rw [gp_eL, n0, gp_in0b _ (by omega) h0 ha]; rfl
  · have hv := h2.2.1 j hj
    have hr := h3.2.1 j hj
    have hw := h1.2.1 j hj
    have c0 : f11_rule (nI j) w Mc = (if w.toInt < 0 ∨ 4 < w.toInt then (some (none, Mc)) else if w = 0 then (some (some (nI (T.2.2 1 j)), Mc)) else if w = 1 then (some (some (nI (T.2.2 2 j)), Mc)) else if w = 2 then (some (some (nI (T.2.2 3 j)), Mc)) else if w = 3 then (some (some (T.2.1 j), Mc)) else if w = 4 then (if nI (T.2.2 6 j) = 0 then (some (some 0, Mc)) else (some (some 1, Mc))) else none) := by
      unfold f11_rule
      rw [if_neg (nI_pos (by omega)), h2.1, if_pos (nI_lt hj (by omega)), gp_ckb (by omega) (by omega), gp_ckb (by omega) (by omega), gp_ckb (by omega) (by omega), gp_ckb (by omega) (by omega), gp_ckb (by omega) (by omega), nI_clamp (by omega), hv.1, hv.2.1, hv.2.2.1, hv.2.2.2.1, hv.2.2.2.2.2]
    have r0 : f12_rule (nI j) w Mr = (if w.toInt < 0 ∨ 4 < w.toInt then (some (0, gz_w (gz_w Mr 0 5 0) 0 5 1)) else if w = 0 then (some (nI (T.2.2 1 j), gz_w Mr 0 5 0)) else if w = 1 then (some (nI (T.2.2 2 j), gz_w Mr 0 5 0)) else if w = 2 then (some (nI (T.2.2 3 j), gz_w Mr 0 5 0)) else if w = 3 then (some (T.2.1 j, gz_w Mr 0 5 0)) else if w = 4 then (if nI (T.2.2 6 j) = 0 then (some (0, gz_w Mr 0 5 0)) else (some (1, gz_w Mr 0 5 0))) else none) := by
      unfold f12_rule
      rw [gp_eL, n0, gp_in1 _ (by omega) hj, gp_eB2, if_neg (by decide), gp_ckb (by omega) (by omega), gp_ckb (by omega) (by omega), gp_ckb (by omega) (by omega), gp_ckb (by omega) (by omega), gp_ckb (by omega) (by omega), nI_clamp (by omega), gp_wc _ (by omega), gp_wc _ (by omega), gp_wc _ (by omega), gp_wc _ (by omega), gp_wc _ (by omega), hr.1, hr.2.1, hr.2.2.1, hr.2.2.2.1, hr.2.2.2.2.1]
      rfl
    rcases pk_ix w (n := 5) (by omega) with hw | hw | ⟨i, hi, rfl⟩
    · refine gp_ansX0 (v := 0) hq (Or.inl ⟨?_, ?_⟩)
      · rw [c0, if_pos (Or.inl (gp_tneg hw))]
      · rw [r0, if_pos (Or.inl (gp_tneg hw))]
    · have g := gp_tge (by omega) hw
      refine gp_ansX0 (v := 0) hq (Or.inl ⟨?_, ?_⟩)
      · rw [c0, if_pos (Or.inr (by omega))]
      · rw [r0, if_pos (Or.inr (by omega))]
    · rw [nI_toInt (by omega), if_neg (by omega)] at c0 r0
      have hc : i = 0 ∨ i = 1 ∨ i = 2 ∨ i = 3 ∨ i = 4 := by omega
      rcases hc with rfl | rfl | rfl | rfl | rfl
      · exact gp_ansX0 hq (Or.inr ⟨c0, r0⟩)
      · exact gp_ansX0 hq (Or.inr ⟨c0, r0⟩)
      · exact gp_ansX0 hq (Or.inr ⟨c0, r0⟩)
      · exact gp_ansX0 hq (Or.inr ⟨c0, r0⟩)
      · rw [if_neg (by decide), if_neg (by decide), if_neg (by decide), if_neg (by decide), if_pos (by decide)] at c0 r0
        by_cases h6 : nI (T.2.2 6 j) = 0
        · rw [if_pos h6] at c0 r0
          exact gp_ansX0 hq (Or.inr ⟨c0, r0⟩)
        · rw [if_neg h6] at c0 r0
          exact gp_ansX0 hq (Or.inr ⟨c0, r0⟩)
theorem gp_a7 (h : gp_Q B cu Mc Mr T l) (a : Int32) : gp_ansX B cu Mc Mr (f11_at a Mc) (f12_at a Mr) := by
  have hq := h
  obtain ⟨h1, h2, h3, h4, h5, h6, h7, h8⟩ := h
  have h42 := h4.1
  have n0 : (gz_w Mr 0 5 0).1 1 (81 : Int32).toNatClampNeg = nI l.length := by rw [gp_wc _ (by omega)]; exact h5.2.1
  rcases gp_has h4 a with ⟨h0, e⟩ | ⟨h0, ha, e⟩ | ⟨j, hj, rfl, e⟩
  · refine gp_ansX0 (v := 0) hq (Or.inl ⟨?_, ?_⟩)
    · unfold f11_at; rw [show (7 + 2 : Nat) = 9 from rfl, e, gp_eB2, if_pos rfl]
    · unfold f12_at; rw [gp_eL, gp_c81, n0, gp_in0 _ _ h0]; rfl
  · refine gp_ansX0 (v := 0) hq (Or.inl ⟨?_, ?_⟩)
    · unfold f11_at; rw [show (7 + 2 : Nat) = 9 from rfl, e, gp_eB2, if_pos rfl]
    · unfold f12_at; rw [gp_eL, gp_c81, n0, gp_in0b _ (by omega) h0 ha]; rfl
  · refine gp_ansX0 (v := nI (l.getD j 0)) hq (Or.inr ⟨?_, ?_⟩)
    · unfold f11_at; rw [show (7 + 2 : Nat) = 9 from rfl, e, gp_eB2, if_neg (by decide), gp_lget h4 hj, gp_eB2]
    · unfold f12_at
      rw [gp_eL, gp_c81, n0, gp_in1 _ (by omega) hj, gp_eB2, if_neg (by decide), show (82 : Int32) = nI 82 from rfl, nI_add, gp_ckb (by omega) (by omega), nI_clamp (by omega), gp_wc _ (by omega), (h5.2.2 j hj).1]
theorem gp_a41 (h : gp_Q B cu Mc Mr T l) (hB : B) (a : Int32) : gp_ansX B cu Mc Mr (f11_row a Mc) (f12_row a Mr) := by
  have hq := h
  obtain ⟨h1, h2, h3, h4, h5, h6, h7, r, r', p0, p1, p2, p3, p4⟩ := h
  have hrr := p4 hB
  subst hrr
  have n0 : (gz_w Mr 0 5 0).1 0 4 = nI r.length := by rw [gp_gn (by omega)]; exact p3.1
  rcases pk_ix a (n := r.length) (by omega) with ha | ha | ⟨j, hj, rfl⟩
  · refine gp_ansX0 (v := (0 : Int32).toInt64) hq (Or.inl ⟨?_, ?_⟩)
    · unfold f11_row; rw [if_pos ha]; rfl
    · unfold f12_row; rw [gp_eL, n0, gp_in0 _ _ ha]; rfl
  · have h0 := gp_neg_of (by omega) ha
    refine gp_ansX0 (v := (0 : Int32).toInt64) hq (Or.inl ⟨?_, ?_⟩)
    · unfold f11_row; rw [if_neg h0, p2.1, if_pos ha]; rfl
    · unfold f12_row; rw [gp_eL, n0, gp_in0b _ (by omega) h0 ha]; rfl
  · refine gp_ansX0 (v := r.getD j 0) hq (Or.inr ⟨?_, ?_⟩)
    · unfold f11_row; rw [if_neg (nI_pos (by omega)), p2.1, if_neg (nI_ge hj (by omega)), if_pos (show nI j < (1024 : Int32) from nI_lt (b := 1024) (by omega) (by omega)), gp_ckb (show j < 1024 by omega) (by omega), nI_clamp (by omega), p2.2 j hj]
    · unfold f12_row
      rw [gp_eL, n0, gp_in1 _ (by omega) hj, gp_eB2, if_neg (by decide), gp_ckb (show j < 64 by omega) (by omega), nI_clamp (by omega)]
      show some (Mr.2 j, _) = _
      rw [p3.2 j hj]
/-- sums over rules -/
def gp_ac (f : Int32 → Nat → Int32) : Nat → Int32
  | 0 => 0
  | x + 1 => f (gp_ac f x) x
theorem gp_acL (L : Nat → Int32 → Int32 → gz_M → Option (Int32 × gz_M)) (f : Int32 → Nat → Int32) (N : Nat) (M : gz_M) (hend : ∀ n v, L (n + 1) v (nI N) M = some (v, M)) (hstep : ∀ n v x, x < N → L (n + 1) v (nI x) M = L n (f v x) (nI (x + 1)) M) (hN : N < gz_FU) : L gz_FU 0 (nI 0) M = some (gp_ac f N, M) := by
  have main : ∀ d x n, x + d = N → d < n → L n (gp_ac f x) (nI x) M = some (gp_ac f N, M) := by
    intro d
    induction d with
    | zero =>
      intro x n hx hn
      obtain ⟨n, rfl⟩ : ∃ q, n = q + 1 := ⟨n - 1, by omega⟩
      have : x = N := by omega
      subst this
      exact hend n _
    | succ d ih =>
      intro x n hx hn
      obtain ⟨n, rfl⟩ : ∃ q, n = q + 1 := ⟨n - 1, by omega⟩
      rw [hstep n _ x (by omega)]
      exact ih (x + 1) n (by omega) (by omega)
  exact main N 0 gz_FU (by omega) hN
theorem gp_allL (h : gp_tC k M T) (hw : gp_wT T) : f7_lettersOfAll k M = some (gp_ac (fun v x => v + nI (T.2.2 2 x)) T.1, M) := by
  have ht := hw.1
  refine gp_acL (fun n v x M => f7_lettersOfAll_4 k n v x M) _ T.1 M (fun n v => ?_) (fun n v x hx => ?_) (by unfold gz_FU; omega)
  · show f7_lettersOfAll_4 k (n + 1) _ _ _ = _
    rw [f7_lettersOfAll_4, h.1, if_pos (nI_le (Nat.le_refl _) (by omega))]
  · show f7_lettersOfAll_4 k (n + 1) _ _ _ = f7_lettersOfAll_4 k n _ _ _
    rw [f7_lettersOfAll_4, h.1, if_neg (nI_ge hx (by omega)), gp_ckb (show x < 8 by omega) (by omega), nI_clamp (by omega), (h.2.1 x hx).2.1, gp_eL, gp_eL, nI_1]
theorem gp_allR (h : gp_tR M T) (hw : gp_wT T) : f12_allLetters M = some (gp_ac (fun v x => v + nI (T.2.2 2 x)) T.1, M) := by
  have ht := hw.1
  refine gp_acL (fun n v x M => f12_allLetters_4 n v x M) _ T.1 M (fun n v => ?_) (fun n v x hx => ?_) (by unfold gz_FU; omega)
  · show f12_allLetters_4 (n + 1) _ _ _ = _
    rw [f12_allLetters_4, h.1, if_pos (nI_le (Nat.le_refl _) (by omega))]
  · show f12_allLetters_4 (n + 1) _ _ _ = f12_allLetters_4 n _ _ _
    rw [f12_allLetters_4, h.1, if_neg (nI_ge hx (by omega)), gp_ckb (show x < 8 by omega) (by omega), nI_clamp (by omega), (h.2.1 x hx).2.1, gp_eL, gp_eL, nI_1]
theorem gp_modL (h : gp_tC k M T) (hw : gp_wT T) : f7_modesWithRules k M = some (gp_ac (fun v x => v ||| gz_shl 1 (nI (T.2.2 1 x))) T.1, M) := by
  have ht := hw.1
  refine gp_acL (fun n v x M => f7_modesWithRules_4 k n v x M) _ T.1 M (fun n v => ?_) (fun n v x hx => ?_) (by unfold gz_FU; omega)
  · show f7_modesWithRules_4 k (n + 1) _ _ _ = _
    rw [f7_modesWithRules_4, h.1, if_pos (nI_le (Nat.le_refl _) (by omega))]
  · show f7_modesWithRules_4 k (n + 1) _ _ _ = f7_modesWithRules_4 k n _ _ _
    rw [f7_modesWithRules_4, h.1, if_neg (nI_ge hx (by omega)), gp_ckb (show x < 8 by omega) (by omega), nI_clamp (by omega), (h.2.1 x hx).1, gp_eL, gp_eL, nI_1]
theorem gp_modR (h : gp_tR M T) (hw : gp_wT T) : f12_ruledModes M = some (gp_ac (fun v x => v ||| gz_shl 1 (nI (T.2.2 1 x))) T.1, M) := by
  have ht := hw.1
  refine gp_acL (fun n v x M => f12_ruledModes_4 n v x M) _ T.1 M (fun n v => ?_) (fun n v x hx => ?_) (by unfold gz_FU; omega)
  · show f12_ruledModes_4 (n + 1) _ _ _ = _
    rw [f12_ruledModes_4, h.1, if_pos (nI_le (Nat.le_refl _) (by omega))]
  · show f12_ruledModes_4 (n + 1) _ _ _ = f12_ruledModes_4 n _ _ _
    rw [f12_ruledModes_4, h.1, if_neg (nI_ge hx (by omega)), gp_ckb (show x < 8 by omega) (by omega), nI_clamp (by omega), (h.2.1 x hx).1, gp_eL, gp_eL, nI_1]
end
section
variable {B : Prop} {pf : Nat → Bool} {Mc Mr : gz_M} {cu o : Nat} {x : List Nat} {b : gp_Bk} {us : List gp_Bk} {ks : Nat → Option gp_Bk}
theorem gp_a40 (h : gp_RI B pf cu Mc Mr x b us ks o) (hB : B) (a : Int32) : gp_ans B cu Mc Mr (f11_count a Mc) (f12_count a Mr) := by
  obtain ⟨hq, h2', h3', h4', _, _, _, h8', _, h10', _⟩ := h
  have hQ := hq
  obtain ⟨h1, h2, h3, h4, h5, h6, h7, h8⟩ := hq
  have tR : gp_tR (gz_w Mr 0 5 0) (gp_tab b.1) := h3.fr (fun c c1 c2 => gp_wc _ (by omega)) (gp_gn (by omega))
  obtain ⟨M1, e1, e2, e3, e4, e5, e6, e7, e8, _⟩ := gp_cutT hQ
  rcases pk_ix a (n := 9) (by omega) with ha | ha | ⟨j, hj, rfl⟩
  · refine gp_ansN hQ (-1) ?_ ?_
    · unfold f11_count; rw [if_pos (Or.inl (gp_tneg ha))]
    · unfold f12_count; rw [gp_eL, if_pos (Or.inl (gp_tneg ha))]
  · have g := gp_tge (by omega) ha
    refine gp_ansN hQ (-1) ?_ ?_
    · unfold f11_count; rw [if_pos (Or.inr (by omega))]
    · unfold f12_count; rw [gp_eL, if_pos (Or.inr (by omega))]
  · have hc : j = 0 ∨ j = 1 ∨ j = 2 ∨ j = 3 ∨ j = 4 ∨ j = 5 ∨ j = 6 ∨ j = 7 ∨ j = 8 := by omega
    rcases hc with rfl | rfl | rfl | rfl | rfl | rfl | rfl | rfl | rfl
    · refine gp_ansN hQ (nI (gp_tab b.1).1) ?_ ?_
      · unfold f11_count; rw [if_neg (by decide), if_pos (by decide), h2.1]
      · unfold f12_count; rw [gp_eL, if_neg (by decide), if_pos (by decide), tR.1]
    · refine gp_ansN hQ (nI b.2.length) ?_ ?_
      · unfold f11_count; rw [if_neg (by decide), if_neg (by decide), if_pos (by decide)]; exact congrArg (fun v => some (v, Mc)) h4.2.1
      · unfold f12_count; rw [gp_eL, if_neg (by decide), if_neg (by decide), if_pos (by decide), gp_c81, gp_wc _ (by omega), gp_k81, h5.2.1]
    · refine gp_ansK (v := nI (gp_cut (gp_tab b.1) b.2).length) (Mc' := Mc) (Mr' := M1) ?_ ?_ gp_qC.refl e2 h8 rfl rfl e7 e8
      · unfold f11_count; rw [if_neg (by decide), if_neg (by decide), if_neg (by decide), if_pos (by decide), h6.2.1, h6.2.2.1.1]
      · unfold f12_count; rw [gp_eL, if_neg (by decide), if_neg (by decide), if_neg (by decide), if_pos (by decide), e1, gp_eB, e3.1]
    · refine gp_ansN hQ (nI us.length) ?_ ?_
      · unfold f11_count; rw [if_neg (by decide), if_neg (by decide), if_neg (by decide), if_neg (by decide), if_pos (by decide), h8'.2.2.2.1]
      · unfold f12_count; rw [gp_eL, if_neg (by decide), if_neg (by decide), if_neg (by decide), if_neg (by decide), if_pos (by decide), gp_gn (by omega), h10'.1]
    · obtain ⟨r, r', p0, p1, p2, p3, p4⟩ := h8
      have hrr := p4 hB
      subst hrr
      refine gp_ansN hQ (nI r.length) ?_ ?_
      · unfold f11_count; rw [if_neg (by decide), if_neg (by decide), if_neg (by decide), if_neg (by decide), if_neg (by decide), if_pos (by decide), p2.1]
      · unfold f12_count; rw [gp_eL, if_neg (by decide), if_neg (by decide), if_neg (by decide), if_neg (by decide), if_neg (by decide), if_pos (by decide), gp_gn (by omega), p3.1]
    · refine gp_ansN hQ (nI x.length) ?_ ?_
      · unfold f11_count; rw [if_neg (by decide), if_neg (by decide), if_neg (by decide), if_neg (by decide), if_neg (by decide), if_neg (by decide), if_pos (by decide), h3'.2.1]
      · unfold f12_count; rw [gp_eL, if_neg (by decide), if_neg (by decide), if_neg (by decide), if_neg (by decide), if_neg (by decide), if_neg (by decide), if_pos (by decide), gp_gn (by omega), h4'.2.1]
    · refine gp_ansK (v := nI (gp_most (gp_cut (gp_tab b.1) b.2))) (Mc' := Mc) (Mr' := M1) ?_ ?_ gp_qC.refl e2 h8 rfl rfl e7 e8
      · unfold f11_count; rw [if_neg (by decide), if_neg (by decide), if_neg (by decide), if_neg (by decide), if_neg (by decide), if_neg (by decide), if_neg (by decide), if_pos (by decide), h6.2.1, h6.2.2.1.2.1]
      · unfold f12_count; rw [gp_eL, if_neg (by decide), if_neg (by decide), if_neg (by decide), if_neg (by decide), if_neg (by decide), if_neg (by decide), if_neg (by decide), if_pos (by decide), e1, gp_eB, e3.2.1]
    · refine gp_ansN hQ (gp_ac (fun v x => v + nI ((gp_tab b.1).2.2 2 x)) (gp_tab b.1).1) ?_ ?_
      · unfold f11_count; rw [if_neg (by decide), if_neg (by decide), if_neg (by decide), if_neg (by decide), if_neg (by decide), if_neg (by decide), if_neg (by decide), if_neg (by decide), if_pos (by decide), gp_allL h2 h1, gp_eB2]
      · unfold f12_count; rw [gp_eL, if_neg (by decide), if_neg (by decide), if_neg (by decide), if_neg (by decide), if_neg (by decide), if_neg (by decide), if_neg (by decide), if_neg (by decide), if_pos (by decide), gp_allR tR h1, gp_eB2]
    · refine gp_ansN hQ (gp_ac (fun v x => v ||| gz_shl 1 (nI ((gp_tab b.1).2.2 1 x))) (gp_tab b.1).1) ?_ ?_
      · unfold f11_count; rw [if_neg (by decide), if_neg (by decide), if_neg (by decide), if_neg (by decide), if_neg (by decide), if_neg (by decide), if_neg (by decide), if_neg (by decide), if_neg (by decide), if_pos (by decide), gp_modL h2 h1, gp_eB2]
      · unfold f12_count; rw [gp_eL, if_neg (by decide), if_neg (by decide), if_neg (by decide), if_neg (by decide), if_neg (by decide), if_neg (by decide), if_neg (by decide), if_neg (by decide), if_neg (by decide), if_pos (by decide), gp_modR tR h1, gp_eB2]
end
end
