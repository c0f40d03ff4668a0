/-! promises 31, 32, 33: becomes, comes, goes -/
section
variable {M M' N : gz_M} {T T' : gp_T} {l l' : List Nat} {ts ss : List gp_K} {k k0 kd q n n' : Nat}
theorem gq_cI {v : Nat} (h : v = 30 ∨ v = 60) : gz_cIx (gz_cOf v) = v := by
  rcases h with rfl | rfl <;> decide
theorem gq_45 (h : gp_old M ts) (hl : ts.length ≤ 24) (hok : ∀ t, t ∈ ts → gp_tkOk T n t) (hn : n ≤ 24) (hq : q ≤ 24) : f12_changed_45 gz_FU (nI kd) (nI q) 0 M = f12_changed_76 (nI kd) (nI q) (nI (gp_ahd q ts)) M := by
  obtain ⟨h39, N, hN, h23⟩ := h
  obtain ⟨a1, a2, a3⟩ := gp_ahd_f q ts
  have main : ∀ d k m, k + d = gp_ahd q ts → d < m → f12_changed_45 m (nI kd) (nI q) (nI k) M = f12_changed_76 (nI kd) (nI q) (nI (gp_ahd q ts)) M := by
    intro d
    induction d with
    | zero =>
      intro k m hk hm
      obtain ⟨m, rfl⟩ : ∃ q, m = q + 1 := ⟨m - 1, by omega⟩
      have hk : k = gp_ahd q ts := by omega
      rw [f12_changed_45, h39, hk]
      by_cases c : ts.length ≤ gp_ahd q ts
      · rw [if_pos (nI_le c (by omega))]
      · have e3 : (12 : Int32) * nI (gp_ahd q ts) + 3 = nI (12 * gp_ahd q ts + 3) := by rw [show (12 : Int32) = nI 12 from rfl, pk_mul, show (3 : Int32) = nI 3 from rfl, nI_add]
        have v := hN.2.2 (gp_ahd q ts) (by omega)
        have g := a3 (by omega)
        have o := hok _ (gp_getD_mem (d := gp_k0) (show gp_ahd q ts < ts.length by omega))
        have hr := gp_rch_lt o hn
        rw [if_neg (nI_ge (by omega) (by omega)), e3, gp_ckb (show 12 * gp_ahd q ts + 3 < 300 by omega) (by omega), nI_clamp (by omega), h23 _ (by omega), v.2.2.2.1, if_pos (show nI q < nI (if (ts.getD (gp_ahd q ts) gp_k0).2.2.2.2.1.isSome = true then (ts.getD (gp_ahd q ts) gp_k0).2.2.2.1 else (ts.getD (gp_ahd q ts) gp_k0).2.2.2.1 + 1) from nI_lt (b := gp_rch (ts.getD (gp_ahd q ts) gp_k0)) g (by omega))]
    | succ d ih =>
      intro k m hk hm
      obtain ⟨m, rfl⟩ : ∃ q, m = q + 1 := ⟨m - 1, by omega⟩
      have e3 : (12 : Int32) * nI k + 3 = nI (12 * k + 3) := by rw [show (12 : Int32) = nI 12 from rfl, pk_mul, show (3 : Int32) = nI 3 from rfl, nI_add]
      have v := hN.2.2 k (by omega)
      have g := a2 k (by omega)
      have o := hok _ (gp_getD_mem (d := gp_k0) (show k < ts.length by omega))
      have hr := gp_rch_lt o hn
      rw [f12_changed_45, h39, if_neg (nI_ge (by omega) (by omega)), e3, gp_ckb (show 12 * k + 3 < 300 by omega) (by omega), nI_clamp (by omega), h23 _ (by omega), v.2.2.2.1, if_neg (show ¬ nI q < nI (if (ts.getD k gp_k0).2.2.2.2.1.isSome = true then (ts.getD k gp_k0).2.2.2.1 else (ts.getD k gp_k0).2.2.2.1 + 1) from nI_nlt (a := q) (b := gp_rch (ts.getD k gp_k0)) g (by omega)), gp_eL, nI_1]
      exact ih (k + 1) m (by omega) (by omega)
  exact main (gp_ahd q ts) 0 gz_FU (by omega) (by unfold gz_FU; omega)
theorem gq_76 (hk : kd < 3) (hw : gp_wT T) (hT : gp_tR M T) (hL : gp_lR M l) (hw' : gp_wT T') (hts : ts = gp_cut T' l') (hok' : ∀ t, t ∈ ts → gp_tkOk T' n' t) (hn' : n' ≤ 24) (hq : q ≤ 24) (hO : gp_old M ts) (hkp : gp_ahd q ts ≤ (gp_cut T l).length) (htk : (gp_cut T l).take (gp_ahd q ts) = ts.take (gp_ahd q ts)) : ∃ M', f12_changed_76 (nI kd) (nI q) (nI (gp_ahd q ts)) M = f12_changed_257 (nI (gp_ahd q ts)) (nI (gq_met kd q ts ((gp_cut T l).drop (gp_ahd q ts)) 0).1) (gp_o (gq_met kd q ts ((gp_cut T l).drop (gp_ahd q ts)) 0).2) M' ∧ gp_cutL M M' := by
  have hl24 := hL.1
  have hl' : ts.length ≤ 24 := by rw [hts]; exact gp_cut_len
  obtain ⟨a1, a2, a3⟩ := gp_ahd_f q ts
  have hssl := gp_cut_len (T := T) (l := l)
  generalize hkk : gp_ahd q ts = kp at *
  obtain ⟨M1, e1, e2, e3, e4, e5, e6, e7⟩ := gp_atFirstR M
  have hT1 : gp_tR M1 T := hT.fr (fun c c1 c2 => e3 c (by omega) (by omega)) (e2.2.2 10 (by omega) (by omega) (by omega) (by omega) (by omega))
  have hL1 : gp_lR M1 l := hL.fr (e3 1 (by omega) (by omega))
  have hO1 : gp_old M1 ts := hO.fr (e3 23 (by omega) (by omega)) (e2.2.2 39 (by omega) (by omega) (by omega) (by omega) (by omega))
  unfold f12_changed_76
  rw [e1, gp_eB]
  by_cases h0 : kp = 0
  · subst h0
    obtain ⟨M', f1, f2⟩ := gq_164 (M := M1) (q := q) hk hw hl24 hw' hts hl' hok' hn' hq (nI 0) (gp_cut T l).length 0 gz_FU 0 1 (by omega) (by unfold gz_FU; omega) (by omega) hT1 hL1 hO1 e4 e5 e6.1 (by omega) e6.2.1
    rw [if_pos (show nI 0 ≤ (0 : Int32) by decide)]
    exact ⟨M', f1, e2.trans f2⟩
  · obtain ⟨h39, N, hN, h23⟩ := hO1
    obtain ⟨i, rfl⟩ : ∃ i, kp = i + 1 := ⟨kp - 1, by omega⟩
    have hnew : (gp_cut T l).getD i gp_k0 = ts.getD i gp_k0 := by
      have := congrArg (fun L => L.getD i gp_k0) htk
      simpa [List.getD, List.getElem?_take] using this
    have v := hN.2.2 i (by omega)
    have o := hok' _ (gp_getD_mem (d := gp_k0) (show i < ts.length by omega))
    have o4 := o.2.2.2.2.2.2.2
    have o5 := o4.2.1
    have hm12 : (12 : Int32) * nI i = nI (12 * i) := by rw [show (12 : Int32) = nI 12 from rfl, pk_mul]
    have a0 : ∀ x : Nat, nI (12 * i) + nI x = nI (12 * i + x) := fun x => nI_add _ _
    rw [if_neg (show ¬ nI (i + 1) ≤ (0 : Int32) from nI_ge (a := 0) (by omega) (by omega)), nI_pred, hm12, gp_eL, show (2 : Int32) = nI 2 from rfl, show (5 : Int32) = nI 5 from rfl, a0, a0, gp_ckb (show 12 * i + 2 < 300 by omega) (by omega), nI_clamp (by omega), gp_eL, gp_ckb (show 12 * i + 5 < 300 by omega) (by omega), nI_clamp (by omega), gp_gn (by omega), h23 _ (by omega), h23 _ (by omega), v.2.2.1, v.2.2.2.2.2.1, gp_eL]
    obtain ⟨K, hK⟩ : ∃ K, K = gz_w (gz_w M1 0 26 (nI (ts.getD i gp_k0).2.2.1)) 0 28 (nI (ts.getD i gp_k0).2.2.2.2.2.2.length) := ⟨_, rfl⟩
    have Kc : ∀ c, c ≠ 0 → K.1 c = M1.1 c := fun c hc => by rw [hK, gp_wc _ hc, gp_wc _ hc]
    have K28 : K.1 0 28 = nI (ts.getD i gp_k0).2.2.2.2.2.2.length := by rw [hK, gp_gs]
    have lp := gp_fl_l (M := K) (c := 16) (o := 0) (N := (ts.getD i gp_k0).2.2.2.2.2.2.length) (v := fun x => nI ((ts.getD i gp_k0).2.2.2.2.2.2.getD ((ts.getD i gp_k0).2.2.2.2.2.2.length - 1 - x) 0)) (fun n a M => f12_changed_123 n (nI kd) (nI q) (nI (i + 1)) (nI (12 * i)) a M) (fun M1 => f12_changed_164 gz_FU (nI kd) (nI q) (nI (i + 1)) 0 (-1) M1) (fun n => by
      show f12_changed_123 (n + 1) _ _ _ _ _ _ = _
      rw [f12_changed_123, gp_fl_c (by omega), K28, if_pos (nI_le (Nat.le_refl _) (by omega))]) (fun n x hx => by
      show f12_changed_123 (n + 1) _ _ _ _ _ _ = f12_changed_123 n _ _ _ _ _ _
      rw [f12_changed_123, gp_fl_c (show (0 : Nat) ≠ 16 by omega), K28, if_neg (nI_ge hx (by omega)), show (7 : Int32) = nI 7 from rfl, a0, nI_add, gp_ckb (show 12 * i + 7 + x < 300 by omega) (by omega), gp_ckb (show x < 5 by omega) (by omega), nI_clamp (by omega), nI_clamp (by omega), gp_fl_c (show (23 : Nat) ≠ 16 by omega), Kc 23 (by omega), h23 _ (by omega), v.2.2.2.2.2.2.2 x (by omega), if_pos hx, gp_eL, gp_eL, nI_1, Nat.zero_add]) gz_FU (by unfold gz_FU; omega)
    obtain ⟨P, hP⟩ : ∃ P, P = gp_fl K 16 0 (ts.getD i gp_k0).2.2.2.2.2.2.length (fun x => nI ((ts.getD i gp_k0).2.2.2.2.2.2.getD ((ts.getD i gp_k0).2.2.2.2.2.2.length - 1 - x) 0)) := ⟨_, rfl⟩
    rw [← hP] at lp
    have Pc : ∀ c, c ≠ 0 → c ≠ 16 → P.1 c = M1.1 c := fun c c1 c2 => by rw [hP, gp_fl_c c2, Kc c c1]
    have P0 : ∀ x, x ≠ 26 → x ≠ 28 → P.1 0 x = M1.1 0 x := fun x x1 x2 => by rw [hP, gp_fl_c (by omega), hK, gp_gn (by omega), gp_gn (by omega)]
    have lP : gp_cutL M1 P := ⟨by rw [hP, hK]; rfl, fun c c1 c2 => Pc c c1 (by omega), fun x x1 x2 _ _ _ => P0 x x1 x2⟩
    have est : gq_st [0] (gp_cut T l) (i + 1) = (ts.getD i gp_k0).2.2.2.2.2.2 := by
      unfold gq_st
      rw [if_neg (by omega), Nat.add_sub_cancel, hnew]
    have epl : gq_pl 0 (gp_cut T l) (i + 1) = (ts.getD i gp_k0).2.2.1 := by
      unfold gq_pl
      rw [if_neg (by omega), Nat.add_sub_cancel, hnew]
    obtain ⟨M', f1, f2⟩ := gq_164 (M := P) (q := q) hk hw hl24 hw' hts hl' hok' hn' hq (nI (i + 1)) ((gp_cut T l).length - (i + 1)) (i + 1) gz_FU 0 1 (by omega) (by unfold gz_FU; omega) (by omega) (hT1.fr (fun c c1 c2 => Pc c (by omega) (by omega)) (P0 10 (by omega) (by omega))) (hL1.fr (Pc 1 (by omega) (by omega))) (gp_old.fr ⟨h39, N, hN, h23⟩ (Pc 23 (by omega) (by omega)) (P0 39 (by omega) (by omega))) (by
      rw [est]
      refine ⟨by rw [hP, gp_fl_c (by omega)]; exact K28, fun x hx => ?_⟩
      have := gp_fl_i (M := K) (c := 16) (o := 0) (N := (ts.getD i gp_k0).2.2.2.2.2.2.length) (v := fun x => nI ((ts.getD i gp_k0).2.2.2.2.2.2.getD ((ts.getD i gp_k0).2.2.2.2.2.2.length - 1 - x) 0)) hx
      rw [Nat.zero_add] at this
      rw [hP, this]) (by rw [epl, hP, gp_fl_c (by omega), hK, gp_gn (by omega), gp_gs]) (by rw [P0 31 (by omega) (by omega)]; exact e6.1) (by omega) (by rw [P0 29 (by omega) (by omega)]; exact e6.2.1)
    refine ⟨M', ?_, (e2.trans lP).trans f2⟩
    rw [← f1, ← hK]
    exact lp
theorem gq_257 (hw : gp_wT T) (hT : gp_tR M T) (hL : gp_lR M l) (hO : gp_old M ts) (hl' : ts.length ≤ 24) (kp a : Nat) (o : Option Nat) (ho : ∀ j, o = some j → j < ts.length) : ∃ M', f12_changed_257 (nI kp) (nI a) (gp_o o) M = some (nI (gp_cut T l).length, M') ∧ (∀ c, c ≠ 0 → ¬ (16 ≤ c ∧ c ≤ 20) → M'.1 c = M.1 c) ∧ (∀ i, i ≠ 4 → i ≠ 26 → i ≠ 28 → i ≠ 29 → i ≠ 31 → i ≠ 32 → M'.1 0 i = M.1 0 i) ∧ gp_wR M' [(nI kp).toInt64, (nI a).toInt64, (nI (gq_mN ts o)).toInt64] := by
  obtain ⟨M1, M2, M3, t1, t2, t3, t4, t5⟩ := gp_tell3R M (nI kp).toInt64 (nI a).toInt64 (nI (gq_mN ts o)).toInt64
  obtain ⟨M4, c1, c2, c3, c4, _⟩ := gp_cutAll0 (M := M3) (l := l) hw (hT.fr (fun c c1 c2 => t4.1 c (by omega)) (t4.2 10 (by omega))) (hL.fr (t4.1 1 (by omega)))
  have e276 : f12_changed_276 (nI kp) (nI a) (nI (gq_mN ts o)) M = some (nI (gp_cut T l).length, M4) := by
    unfold f12_changed_276
    rw [gp_eL, t1, gp_eB, t2, gp_eB, t3, gp_eB, c1, gp_eB, c4.1]
  refine ⟨M4, ?_, fun c e1 e2 => by rw [c2.2.1 c e1 e2, t4.1 c e1], fun i i0 i1 i2 i3 i4 i5 => by rw [c2.2.2 i i1 i2 i3 i4 i5, t4.2 i i0], t5.fr c2.1 (c2.2.2 4 (by omega) (by omega) (by omega) (by omega) (by omega))⟩
  unfold f12_changed_257
  cases o with
  | none =>
    rw [if_pos (show gp_o none = -1 from rfl)]
    exact e276
  | some j =>
    have hj := ho j rfl
    have hv : nI ts.length - 1 - nI j = nI (ts.length - 1 - j) := by
      obtain ⟨v, hv⟩ : ∃ v, ts.length = v + 1 := ⟨ts.length - 1, by omega⟩
      rw [hv, nI_pred, gp_subI (by omega)]
      rfl
    rw [if_neg (by rw [gp_oS, gp_m1, gp_ne1 (by omega)]; exact id), hO.1, gp_oS, hv]
    exact e276
end
section
variable {B : Prop} {pf pf' : Nat → Bool} {M M' Mc Mr Mc' Mr' C R : gz_M} {cu cu' o o' kd : Nat} {x x' t l l' : List Nat} {b u : gp_Bk} {us us' : List gp_Bk} {ks ks' : Nat → Option gp_Bk}
theorem gq_chgA (h : gp_RI B pf cu Mc Mr x b us ks o) (hk : kd < 3) (q s : Int32) (hs : kd = 2 → s = 0) : gp_call B (g11_change (nI kd) q s Mc pf) (f12_changed (nI kd) q s Mr) := by
  have hR := h
  obtain ⟨⟨q1, q2, q3, q4, q5, q6, q7, q8⟩, h2, h3, h4, h5, h6, h7, h8, h9, h10, h11⟩ := h
  have hcu := q6.1
  have hl24 : b.2.length ≤ 24 := h2.2.2.1
  have hlr : gp_lR (gz_w Mr 0 5 0) b.2 := q5.fr (gp_wc _ (by omega))
  rcases gq_ref q4 hlr hk q s hs with ⟨v, v1, v2, e1, e2⟩ | ⟨j, z, rfl, rfl, hcan, e1, e2⟩
  · refine ⟨v, Mc, pf, gz_w Mr 0 5 0, ?_, ?_, cu, x, b, us, ks, o, hR.ans gp_qC.refl (gp_thr 0).1 (q8.fr rfl rfl rfl (gp_gn (by omega)))⟩
    · unfold g11_change
      rw [show (7 + 2 : Nat) = 9 from rfl, e1, gp_eB2, if_neg v1]
    · unfold f12_changed
      rw [gp_eL, e2, gp_eB2, if_neg v1]
  · obtain ⟨hn24, n0, n1, n2⟩ := gq_chg_len hk hcan hl24
    generalize hle : gq_chg kd b.2 j z = l' at hn24 n0 n1 n2
    have hj24 : j ≤ 24 := by
      obtain ⟨g1, g2, g3, g4⟩ := hcan
      obtain e | e | e : kd = 0 ∨ kd = 1 ∨ kd = 2 := by omega
      · have := (g2 e).1; omega
      · have := (g3 e).1; omega
      · have := g4 e; omega
    have hjl : j ≤ b.2.length ∧ j ≤ l'.length := by
      obtain ⟨g1, g2, g3, g4⟩ := hcan
      obtain e | e | e : kd = 0 ∨ kd = 1 ∨ kd = 2 := by omega
      · have := (g2 e).1; have := n0 e; omega
      · have := (g3 e).1; have := n1 e; omega
      · have := g4 e; have := n2 e; omega
    have hpre : ∀ i, i < j → l'[i]? = b.2[i]? := fun i hi => by rw [← hle]; exact gq_chg_pre hk hcan i hi
    obtain ⟨kp1, kp2⟩ := gq_keep (T := gp_tab b.1) q1 hjl.1 hjl.2 hpre 24 0 [0] gp_sk0
    have kp1 : (gp_cut (gp_tab b.1) l').take (gp_ahd j (gp_cut (gp_tab b.1) b.2)) = (gp_cut (gp_tab b.1) b.2).take (gp_ahd j (gp_cut (gp_tab b.1) b.2)) := kp1
    have kp2 : gp_ahd j (gp_cut (gp_tab b.1) b.2) ≤ (gp_cut (gp_tab b.1) l').length := kp2
    have hok := gp_cut_ok (l := b.2) q1
    have hok' := gp_cut_ok (l := l') q1
    have hlen := gp_cut_len (T := gp_tab b.1) (l := b.2)
    have hlen' := gp_cut_len (T := gp_tab b.1) (l := l')
    -- the component
    obtain ⟨C1, pf', o', p1, p2, p3, p4, p5, p6⟩ := gp_pushG (M := Mc) (b := b) h7 h8 ⟨h5, q4⟩
    obtain ⟨C2, hC2⟩ : ∃ C2, C2 = gz_w (gz_w C1 0 5 (gz_cOf (90 - cu))) 0 8 (gz_cOf cu) := ⟨_, rfl⟩
    have C2c : ∀ c, c ≠ 0 → C2.1 c = C1.1 c := fun c hc => by rw [hC2, gp_wc _ hc, gp_wc _ hc]
    have C25 : gz_cIx (C2.1 0 5) = 90 - cu := by rw [hC2, gp_gn (by omega), gp_gs]; exact gq_cI (by omega)
    have C28 : gz_cIx (C2.1 0 8) = cu := by rw [hC2, gp_gs]; exact gq_cI hcu
    have C215 : C2.1 0 15 = C1.1 0 15 := by rw [hC2, gp_gn (by omega), gp_gn (by omega)]
    have hc2 : gp_lC 9 C2 b.2 := q4.fr (fun c c1 c2 => by rw [C2c c (by omega), p3 c (by omega) (by omega)])
    have e1' : f5_refusal 9 (nI kd) (nI j) (nI z) C2 = some (0, C2) := by
      rcases gq_ref hc2 hlr hk (nI j) (nI z) hs with ⟨v, v1, v2, _, g2⟩ | ⟨j', z', g0, g1, _, g3, _⟩
      · rw [e2] at g2
        have g2 := Option.some.inj g2
        exact absurd (congrArg Prod.fst g2).symm v2
      · exact g3
    obtain ⟨C3, d1, d2, d3⟩ := gq_doC hk hc2 hcan e1'
    rw [hle] at d3
    have c3c : ∀ c, c ≠ 0 → c ≠ 9 → c ≠ 10 → c ≠ 131 → c < 135 ∨ 175 ≤ c → C3.1 c = Mc.1 c := fun c g1 g2 g3 g4 g5 => by rw [d2.2 c g2 g3, C2c c g1, p3 c g4 g5]
    have c30 : ∀ i, C3.1 0 i = C2.1 0 i := fun i => by rw [d2.2 0 (by omega) (by omega)]
    obtain ⟨C4, f1, f2, f3, f4⟩ := gp_recut (M := C3) (cu := 90 - cu) (t := b.1) (l := l') q1 (q2.fr (fun c c1 c2 => c3c c (by omega) (by omega) (by omega) (by omega) (by omega))) d3 (by omega) (by rw [c30]; exact C25)
    have c40 : ∀ i, C4.1 0 i = C2.1 0 i := fun i => by rw [f3 0 (by omega), c30]
    have hold4 : gp_cC cu C4 (gp_cut (gp_tab b.1) b.2) := q6.2.2.1.fr (fun c c1 c2 => by rw [f3 c (by omega), c3c c (by omega) (by omega) (by omega) (by omega) (by omega)])
    obtain ⟨C5, g1, g2, g3⟩ := gq_tellC (M := C4) (q := j) hk (by rw [c40]; exact C25) (by rw [c40]; exact C28) f4 hold4 hlen' hlen hok' hok hn24 hl24 hj24 kp2
    have eC : g11_change (nI kd) (nI j) (nI z) Mc pf = some (nI (gp_cut (gp_tab b.1) l').length, C5, pf') := by
      unfold g11_change
      rw [show (7 + 2 : Nat) = 9 from rfl, e1, gp_eB2, if_pos (by decide), show decide (0 + 1 ≤ 1) = true from by decide, gp_eC, p1, gp_eB2, p3 0 (by omega) (by omega), q6.2.1, q7, gp_eL, gp_eL, ← hC2, d1, gp_eB, f1, gp_eB, g1, gp_eB, g2.2 5 (by omega), c40, C25, g2.1 (90 - cu) (by omega), f4.1]
    -- the reference
    obtain ⟨R1, r1, r2, r3, r4, r5, r6, r7, r8, r9⟩ := gp_cutT hR.1
    obtain ⟨R2, o1, o2, o3, o4, o5⟩ := gp_layOldE r3
    have r2c : ∀ c, (c = 1 ∨ c = 2 ∨ (5 ≤ c ∧ c ≤ 14) ∨ c = 21 ∨ c = 22 ∨ c = 33) → R2.1 c = Mr.1 c := fun c hc => by rw [o3 c (by omega) (by omega), r2.1 c hc]
    have r20 : ∀ i, i = 2 ∨ i = 10 ∨ i = 51 → R2.1 0 i = Mr.1 0 i := fun i hi => by
      rw [o4 i (by omega)]
      rcases hi with rfl | rfl | rfl
      · exact r2.2.1
      · exact r2.2.2.1
      · exact r2.2.2.2
    obtain ⟨R3, s1, s2, s3, s4, s5⟩ := gp_chgR (M := R2) (us := us) (b := b) (h10.fr (r2c 33 (by omega)) (r20 51 (by omega))) h8.2.1 h9 h2 (h6.fr (r2c 1 (by omega)))
    have hl3 : gp_lR R3 b.2 := q5.fr (by rw [s3 1 (by omega) (by omega) (by omega), r2c 1 (by omega)])
    obtain ⟨R4, w1, w2, w3, w4, w5⟩ := gq_doR hk hl3 hcan
    rw [hle] at w5
    have r4c : ∀ c, (c = 2 ∨ (5 ≤ c ∧ c ≤ 14) ∨ c = 21 ∨ c = 22) → R4.1 c = Mr.1 c := fun c hc => by rw [w3 c (by omega), s3 c (by omega) (by omega) (by omega), r2c c (by omega)]
    have r40 : ∀ i, i = 2 ∨ i = 10 → R4.1 0 i = Mr.1 0 i := fun i hi => by rw [w3 0 (by omega), s4 i (by omega), r20 i (by omega)]
    have hT4 : gp_tR R4 (gp_tab b.1) := q3.fr (fun c c1 c2 => r4c c (by omega)) (r40 10 (by omega))
    have hO4 : gp_old R4 (gp_cut (gp_tab b.1) b.2) := o5.fr (by rw [w3 23 (by omega), s3 23 (by omega) (by omega) (by omega)]) (by rw [w3 0 (by omega), s4 39 (by omega)])
    have e45 := gq_45 (kd := kd) (q := j) hO4 hlen hok hl24 hj24
    obtain ⟨R5, y1, y2⟩ := gq_76 (M := R4) (kd := kd) (q := j) hk q1 hT4 w5 q1 rfl hok hl24 hj24 hO4 kp2 kp1
    have hT5 : gp_tR R5 (gp_tab b.1) := hT4.fr (fun c c1 c2 => y2.2.1 c (by omega) (by omega)) (y2.2.2 10 (by omega) (by omega) (by omega) (by omega) (by omega))
    have hO5 : gp_old R5 (gp_cut (gp_tab b.1) b.2) := hO4.fr (y2.2.1 23 (by omega) (by omega)) (y2.2.2 39 (by omega) (by omega) (by omega) (by omega) (by omega))
    obtain ⟨R6, z1, z2, z3, z4⟩ := gq_257 (l := l') q1 hT5 (w5.fr (y2.2.1 1 (by omega) (by omega))) hO5 hlen (gp_ahd j (gp_cut (gp_tab b.1) b.2)) (gq_met kd j (gp_cut (gp_tab b.1) b.2) ((gp_cut (gp_tab b.1) l').drop (gp_ahd j (gp_cut (gp_tab b.1) b.2))) 0).1 (gq_met kd j (gp_cut (gp_tab b.1) b.2) ((gp_cut (gp_tab b.1) l').drop (gp_ahd j (gp_cut (gp_tab b.1) b.2))) 0).2 (gq_met_b _ _ _ _ _).2
    have eR : f12_changed (nI kd) (nI j) (nI z) Mr = some (nI (gp_cut (gp_tab b.1) l').length, R6) := by
      unfold f12_changed
      rw [gp_eL, e2, gp_eB2, if_pos (by decide), r1, gp_eB, o1, gp_eB, s1, gp_eB, w1, gp_eB, e45, y1, z1]
    have r6c : ∀ c, c ≠ 0 → ¬ (16 ≤ c ∧ c ≤ 20) → R6.1 c = R4.1 c := fun c c1 c2 => by rw [z2 c c1 c2, y2.2.1 c c1 c2]
    have r60 : ∀ i, i ≠ 4 → i ≠ 26 → i ≠ 28 → i ≠ 29 → i ≠ 31 → i ≠ 32 → R6.1 0 i = R4.1 0 i := fun i i0 i1 i2 i3 i4 i5 => by rw [z3 i i0 i1 i2 i3 i4 i5, y2.2.2 i i1 i2 i3 i4 i5]
    have c5c : ∀ c, c ≠ 0 → C5.1 c = C4.1 c := fun c hc => g2.1 c hc
    have c5m : ∀ c, c ≠ 0 → c ≠ 9 → c ≠ 10 → c ≠ 131 → c < 135 ∨ 175 ≤ c → c < 90 - cu ∨ 90 - cu + 9 ≤ c → C5.1 c = Mc.1 c := fun c a1 a2 a3 a4 a5 a6 => by rw [c5c c a1, f3 c a6, c3c c a1 a2 a3 a4 a5]
    refine ⟨_, C5, pf', R6, eC, eR, 90 - cu, x, (b.1, l'), (if us.length = 10 then us.drop 1 else us) ++ [b], ks, o', hR.nl (by omega) (by rw [g2.2 5 (by omega), c40]; exact C25) (by rw [g2.2 8 (by omega), c40, C28]; omega) (fun c hc => c5m c (by omega) (by omega) (by omega) (by omega) (by omega) (by omega)) (d3.fr (fun c a1 a2 => by rw [c5c c (by omega), f3 c (by omega)])) (f4.fr (fun c a1 a2 => c5c c (by omega))) (h3.fr (c5m 1 (by omega) (by omega) (by omega) (by omega) (by omega) (by omega)) (c5m 2 (by omega) (by omega) (by omega) (by omega) (by omega) (by omega))) p4 p5 (p6.fr (fun c hc => by rw [c5c c (by omega), f3 c (by omega), d2.2 c (by omega) (by omega), C2c c (by omega)])) (fun c hc => by rw [r6c c (by omega) (by omega), r4c c (by omega)]) (by rw [r60 10 (by omega) (by omega) (by omega) (by omega) (by omega) (by omega), r40 10 (by omega)]) ?_ (h4.fr (by rw [r6c 2 (by omega) (by omega), r4c 2 (by omega)]) (by rw [r60 2 (by omega) (by omega) (by omega) (by omega) (by omega) (by omega), r40 2 (by omega)])) (s5.fr (by rw [r6c 33 (by omega) (by omega), w3 33 (by omega)]) (by rw [r60 51 (by omega) (by omega) (by omega) (by omega) (by omega) (by omega), w3 0 (by omega)])) ?_ ⟨_, _, by simp, by simp, g3, z4, fun _ => rfl⟩⟩
    · refine ⟨?_, fun i hi => ?_, ?_, fun i hi => ?_⟩
      · rw [r6c 1 (by omega) (by omega), w4 0 (by omega), s3 1 (by omega) (by omega) (by omega), r2c 1 (by omega)]
        exact h6.1
      · have hi : i < b.1.length := hi
        have := h2.1.1
        rw [r6c 1 (by omega) (by omega), w4 _ (by omega), s3 1 (by omega) (by omega) (by omega), r2c 1 (by omega)]
        exact h6.2.1 i hi
      · rw [r6c 1 (by omega) (by omega), Nat.zero_add]
        exact w5.2.1
      · rw [r6c 1 (by omega) (by omega), Nat.zero_add]
        exact (w5.2.2 i hi).1
    · intro u hu
      rcases List.mem_append.mp hu with hu | hu
      · split at hu
        · exact h9 u (List.mem_of_mem_drop hu)
        · exact h9 u hu
      · rw [List.mem_singleton.mp hu]
        exact h2
theorem gp_callB {a : Option (Int32 × gz_M × (Nat → Bool))} {b : Option (Int32 × gz_M)} {f : Option (Int32 × gz_M × (Nat → Bool))} {g : Option (Int32 × gz_M)} (h : gp_call B a b) (hf : ∀ v M pf, a = some (v, M, pf) → f = some (v, M, pf)) (hg : ∀ v M, b = some (v, M) → g = some (v, M)) : gp_call B f g := by
  obtain ⟨v, Mc', pf', Mr', h1, h2, h3⟩ := h
  exact ⟨v, Mc', pf', Mr', hf _ _ _ h1, hg _ _ h2, h3⟩
theorem gp_a31 (h : gp_RI B pf cu Mc Mr x b us ks o) (q s : Int32) : gp_call B (g11_becomes q s Mc pf) (f12_becomes q s Mr) := by
  refine gp_callB (gq_chgA (kd := 0) h (by omega) q s (fun g => by omega)) (fun v M pf e => ?_) (fun v M e => ?_)
  · unfold g11_becomes
    rw [show decide (0 + 1 ≤ 1) = true from by decide, gp_eC, show g11_change 0 q s Mc _ = _ from e, gp_eB3]
  · unfold f12_becomes
    rw [show f12_changed 0 q s Mr = _ from e, gp_eB2]
theorem gp_a32 (h : gp_RI B pf cu Mc Mr x b us ks o) (q s : Int32) : gp_call B (g11_comes q s Mc pf) (f12_comes q s Mr) := by
  refine gp_callB (gq_chgA (kd := 1) h (by omega) q s (fun g => by omega)) (fun v M pf e => ?_) (fun v M e => ?_)
  · unfold g11_comes
    rw [show decide (0 + 1 ≤ 1) = true from by decide, gp_eC, show g11_change 1 q s Mc _ = _ from e, gp_eB3]
  · unfold f12_comes
    rw [show f12_changed 1 q s Mr = _ from e, gp_eB2]
theorem gp_a33 (h : gp_RI B pf cu Mc Mr x b us ks o) (q : Int32) : gp_call B (g11_goes q Mc pf) (f12_goes q Mr) := by
  refine gp_callB (gq_chgA (kd := 2) h (by omega) q 0 (fun _ => rfl)) (fun v M pf e => ?_) (fun v M e => ?_)
  · unfold g11_goes
    rw [show decide (0 + 1 ≤ 1) = true from by decide, gp_eC, show g11_change 2 q 0 Mc _ = _ from e, gp_eB3]
  · unfold f12_goes
    rw [show f12_changed 2 q 0 Mr = _ from e, gp_eB2]
end
