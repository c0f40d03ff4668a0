/-! questions about rules: 24 shortest, 26 overlap: the answers -/
/-- the bound of the rows that are told: 64 signs at most -/
def gp_bnd (T : gp_T) : Prop := (∀ k h, k < T.1 → h < (gp_ex T (T.2.2 1 k)).length → gp_win T (T.2.2 1 k) ((gp_ex T (T.2.2 1 k)).getD h gp_e0).1 = some k → (∀ g, g < h → gp_win T (T.2.2 1 k) ((gp_ex T (T.2.2 1 k)).getD g gp_e0).1 ≠ some k) → (gp_pth (gp_ex T (T.2.2 1 k)) 1024 h).length ≤ 64) ∧ (∀ k j h, k < T.1 → j < T.1 → k ≠ j → T.2.2 1 k = T.2.2 1 j → h < (gp_ex T (T.2.2 1 k)).length → T.2.2 5 k &&& ((gp_ex T (T.2.2 1 k)).getD h gp_e0).1 ≠ 0 → T.2.2 5 j &&& ((gp_ex T (T.2.2 1 k)).getD h gp_e0).1 ≠ 0 → (∀ g, g < h → ¬ (T.2.2 5 k &&& ((gp_ex T (T.2.2 1 k)).getD g gp_e0).1 ≠ 0 ∧ T.2.2 5 j &&& ((gp_ex T (T.2.2 1 k)).getD g gp_e0).1 ≠ 0)) → (gp_pth (gp_ex T (T.2.2 1 k)) 1024 h).length ≤ 64)
section
variable {B : Prop} {k k0 k1 m S s x p cu i j nx : Nat} {M M' Mc Mr Mc' Mr' : gz_M} {T : gp_T} {l : List Nat} {E : gp_E}
/-- both tell the way to an entry -/
theorem gp_tells (h8 : gp_rw B Mc Mr) (hcu : cu = 30 ∨ cu = 60) (hE : gp_wE E) {h : Nat} (hh : h < E.length) (hc : gp_exC Mc' E) (hr : gp_exR Mr' E) (qc : gp_qC cu Mc Mc') (qr : gp_qR Mr Mr') (rk : Mr'.2 = Mr.2) (rk4 : Mr'.1 0 4 = Mr.1 0 4) (hB : B → (gp_pth E 1024 h).length ≤ 64) : ∃ M1 M2, f11_tellRowTo (nI (E.getD h gp_e0).1) Mc' = some (nI (gp_pth E 1024 h).length, M1) ∧ f12_tellRow (nI h) Mr' = some (nI (gp_pth E 1024 h).length, M2) ∧ gp_qC cu Mc M1 ∧ gp_qR Mr M2 ∧ gp_rw B M1 M2 := by
  have hlen := hE.len
  obtain ⟨p1, p2, p3, p4⟩ := gp_pth_f hE 1024 h (by omega) hh
  obtain ⟨M1, e1, e2, e3, e4⟩ := gp_tellRowTo hE hh hc
  obtain ⟨M2, f1, f2, f3, f4, f5⟩ := gp_tellRow hE h gz_FU 0 Mr' (gp_pth E 1024 h) hh (by omega) (by unfold gz_FU; omega) hr (by omega) p3 (fun i hi => absurd hi (by omega)) (fun i hi => by rw [Nat.zero_add])
  refine ⟨M1, M2, e1, f1, qc.trans ⟨fun c hc => e2 c (by omega) (by omega), e3 _ (by omega), e3 _ (by omega)⟩, qr.trans ⟨fun c hc => f2 c (by omega) (by omega), f3 _ (by omega), f3 _ (by omega), f3 _ (by omega)⟩, ?_⟩
  by_cases h64 : (gp_pth E 1024 h).length ≤ 64
  · exact ⟨_, _, by simp; omega, by simp; omega, e4, f4 h64, fun _ => rfl⟩
  · obtain ⟨r, r', r0, r1, r2, r3, r4⟩ := h8
    obtain ⟨g1, g2⟩ := f5 (by omega)
    exact ⟨_, r', by simp; omega, r1, e4, r3.fr (g1.trans rk) (g2.trans rk4), fun b => absurd (hB b) h64⟩
theorem gp_isRuleE (hw : gp_wT T) (hc : gp_tC 11 Mc T) (a : Int32) : (a < 0 ∧ ∀ M, gp_tR M T → f12_isRule a M = some (0, M)) ∨ (¬ a < 0 ∧ nI T.1 ≤ a ∧ ∀ M, gp_tR M T → f12_isRule a M = some (0, M)) ∨ ∃ k, k < T.1 ∧ a = nI k ∧ ∀ M, gp_tR M T → f12_isRule a M = some (1, M) := by
  have hw1 := hw.1
  rcases pk_ix a (n := T.1) (by omega) with ha | ha | ⟨k, hk, rfl⟩
  · left
    refine ⟨ha, fun M hM => ?_⟩
    unfold f12_isRule
    rw [hM.1, gp_in0 _ _ ha]
    rfl
  · right; left
    have h0 : ¬ a < 0 := by
      intro hlt
      have a1 := Int32.le_iff_toInt_le.mp ha
      have a2 := Int32.lt_iff_toInt_lt.mp hlt
      rw [nI_toInt (by omega)] at a1
      rw [show ((0 : Int32)).toInt = 0 by decide] at a2
      omega
    refine ⟨h0, ha, fun M hM => ?_⟩
    unfold f12_isRule
    rw [hM.1, gp_in0b _ (by omega) h0 ha]
    rfl
  · right; right
    refine ⟨k, hk, rfl, fun M hM => ?_⟩
    unfold f12_isRule
    rw [hM.1, gp_in1 _ (by omega) hk]
    rfl
/-- the first one of the entries, or none -/
theorem gp_firstE (P : Nat → Prop) (n : Nat) : (∃ h, h < n ∧ P h ∧ ∀ g, g < h → ¬ P g) ∨ ∀ h, h < n → ¬ P h := by
  by_cases he : ∃ h, h < n ∧ P h
  · left
    obtain ⟨h, h1, h2⟩ := pk_least (fun h => h < n ∧ P h) he
    exact ⟨h, h1.1, h1.2, fun g hg hP => h2 g hg ⟨by omega, hP⟩⟩
  · right
    exact fun h h1 h2 => he ⟨h, h1, h2⟩
theorem gp_oI {o : Option Nat} {k : Nat} (ho : ∀ j, o = some j → j < 2 ^ 31) (hk : k < 2 ^ 31) : (gp_o o = nI k) ↔ o = some k := by
  cases o with
  | none =>
    rw [gp_oN, gp_ne2 hk]
    simp
  | some j =>
    rw [gp_oS, nI_eq (ho j rfl) hk]
    simp
/-! promise 24: shortest -/
theorem gp_a24 (h : gp_Q B cu Mc Mr T l) (hB : B → gp_bnd T) (a : Int32) : gp_ans B cu Mc Mr (f11_shortest a Mc) (f12_shortest a Mr) := by
  have hq := h
  obtain ⟨h1, h2, h3, h4, h5, h6, h7, h8⟩ := h
  have hcu := h6.1
  have hw1 := h1.1
  have ht : gp_tR (gz_w Mr 0 5 0) T := h3.fr (fun c c1 c2 => gp_wc _ (by omega)) (gp_gn (by omega))
  rcases gp_isRuleE h1 h2 a with ⟨ha, hi⟩ | ⟨ha, ha2, hi⟩ | ⟨k, hk, rfl, hi⟩
  · refine gp_ansN hq (-1) ?_ ?_
    · unfold f11_shortest; rw [if_pos ha]
    · unfold f12_shortest; rw [gp_eL, hi _ ht]; rfl
  · refine gp_ansN hq (-1) ?_ ?_
    · unfold f11_shortest
      rw [if_neg ha, h2.1, if_neg (fun hh => by
        have a1 := Int32.le_iff_toInt_le.mp ha2
        have a2 := Int32.lt_iff_toInt_lt.mp hh
        omega)]
    · unfold f12_shortest; rw [gp_eL, hi _ ht]; rfl
  · have hm := (h1.2.1 k hk).1
    have hvC := (h2.2.1 k hk).1
    have hvR := (ht.2.1 k hk).1
    obtain ⟨M1, e1, e2, e3, e4⟩ := gp_explore (m := T.2.2 1 k) h1 hm h2
    obtain ⟨N1, n1, n2, n3⟩ := gp_layFound (m := T.2.2 1 k) h1 hm ht
    have hlen := e4.len
    have htC : gp_tC 11 M1 T := h2.fr (fun c c1 c2 => e2.2 c (by omega))
    have htR : gp_tR N1 T := n2.t ht
    have hbd := fun b => (hB b).1 k
    generalize hm' : T.2.2 1 k = m at *
    generalize gp_ex T m = E at *
    have hws : ∀ S j, gp_win T m S = some j → j < 2 ^ 31 := fun S j hj => by have := (gp_win_some hj).1; omega
    have cc : f11_shortest (nI k) Mc = f11_shortest_41 gz_FU (nI k) (nI m) 0 M1 := by
      unfold f11_shortest
      rw [if_neg (nI_pos (by omega)), h2.1, if_pos (nI_lt hk (by omega)), gp_ckb (by omega) (by omega), gp_eL, nI_clamp (by omega), hvC, e1, gp_eB]
    have rc : f12_shortest (nI k) Mr = f12_shortest_27 gz_FU (nI k) 0 N1 := by
      unfold f12_shortest
      rw [gp_eL, hi _ ht, gp_eB2, if_neg (by decide), gp_ckb (by omega) (by omega), nI_clamp (by omega), hvR, n1, gp_eB]
    have hvR1 := (htR.2.1 k hk).1
    rw [hm'] at hvR1
    have stC : ∀ n x, x < E.length → f11_shortest_41 (n + 1) (nI k) (nI m) (nI x) M1 = if gp_o (gp_win T m (E.getD x gp_e0).1) = nI k then (gz_bd2 (f11_tellRowTo (nI (E.getD x gp_e0).1) M1) fun v8 M9 => some (v8, M9)) else f11_shortest_41 n (nI k) (nI m) (nI (x + 1)) M1 := by
      intro n x hx
      rw [f11_shortest_41, e3.1, if_neg (nI_ge hx (by omega)), gp_ckb (by omega) (by omega), nI_clamp (by omega), (e3.2.1 x hx).1, gp_winner h1 htC hm (e4.2 x hx).2.1, gp_eB2, gp_ckb (by omega) (by omega), (e3.2.1 x hx).1, gp_eL, nI_1]
    have stR : ∀ n x, x < E.length → f12_shortest_27 (n + 1) (nI k) (nI x) N1 = if gp_o (gp_win T m (E.getD x gp_e0).1) = nI k then (gz_bd2 (f12_tellRow (nI x) N1) fun v8 M9 => some (v8, M9)) else f12_shortest_27 n (nI k) (nI (x + 1)) N1 := by
      intro n x hx
      rw [f12_shortest_27, n3.1, if_neg (nI_ge hx (by omega)), gp_ckb (by omega) (by omega), gp_ckb (by omega) (by omega), nI_clamp (by omega), nI_clamp (by omega), hvR1, (n3.2.1 x hx).1, gp_winR h1 htR hm (e4.2 x hx).2.1, gp_eB2, gp_eL, nI_1]
    rcases gp_firstE (fun x => gp_win T m (E.getD x gp_e0).1 = some k) E.length with ⟨h, hh, hP, hno⟩ | hno
    · obtain ⟨M2, N2, t1, t2, t3, t4, t5⟩ := gp_tells (cu := cu) h8 hcu e4 hh e3 n3 (e2.qq hcu) ((gp_thr 0).1.trans n2.qq) n2.1 ((n2.2.2 _ (by omega)).trans (gp_gn (by omega))) (fun b => hbd b h hk hh hP hno)
      refine ⟨nI (gp_pth E 1024 h).length, M2, N2, ?_, ?_, t3, t4, t5⟩
      · rw [cc]
        refine gp_forU (fun n x => f11_shortest_41 n (nI k) (nI m) (nI x) M1) h _ (fun n => ?_) (fun n x hx => ?_) gz_FU (by unfold gz_FU; omega)
        · show f11_shortest_41 (n + 1) (nI k) (nI m) (nI h) M1 = _
          rw [stC n h hh, if_pos ((gp_oI (hws _) (by omega)).mpr hP), t1, gp_eB2]
        · show f11_shortest_41 (n + 1) (nI k) (nI m) (nI x) M1 = f11_shortest_41 n (nI k) (nI m) (nI (x + 1)) M1
          rw [stC n x (by omega), if_neg (fun e => hno x hx ((gp_oI (hws _) (by omega)).mp e))]
      · rw [rc]
        refine gp_forU (fun n x => f12_shortest_27 n (nI k) (nI x) N1) h _ (fun n => ?_) (fun n x hx => ?_) gz_FU (by unfold gz_FU; omega)
        · show f12_shortest_27 (n + 1) (nI k) (nI h) N1 = _
          rw [stR n h hh, if_pos ((gp_oI (hws _) (by omega)).mpr hP), t2, gp_eB2]
        · show f12_shortest_27 (n + 1) (nI k) (nI x) N1 = f12_shortest_27 n (nI k) (nI (x + 1)) N1
          rw [stR n x (by omega), if_neg (fun e => hno x hx ((gp_oI (hws _) (by omega)).mp e))]
    · refine gp_ansK (v := -2) ?_ ?_ (e2.qq hcu) ((gp_thr 0).1.trans n2.qq) h8 e2.1 (by rw [e2.2 0 (by omega)]) n2.1 ((n2.2.2 _ (by omega)).trans (gp_gn (by omega)))
      · rw [cc]
        refine gp_forU (fun n x => f11_shortest_41 n (nI k) (nI m) (nI x) M1) E.length _ (fun n => ?_) (fun n x hx => ?_) gz_FU (by unfold gz_FU; omega)
        · show f11_shortest_41 (n + 1) (nI k) (nI m) (nI E.length) M1 = _
          rw [f11_shortest_41, e3.1, if_pos (nI_le (Nat.le_refl _) (by omega))]
        · show f11_shortest_41 (n + 1) (nI k) (nI m) (nI x) M1 = f11_shortest_41 n (nI k) (nI m) (nI (x + 1)) M1
          rw [stC n x hx, if_neg (fun e => hno x hx ((gp_oI (hws _) (by omega)).mp e))]
      · rw [rc]
        refine gp_forU (fun n x => f12_shortest_27 n (nI k) (nI x) N1) E.length _ (fun n => ?_) (fun n x hx => ?_) gz_FU (by unfold gz_FU; omega)
        · show f12_shortest_27 (n + 1) (nI k) (nI E.length) N1 = _
          rw [f12_shortest_27, n3.1, if_pos (nI_le (Nat.le_refl _) (by omega))]
        · show f12_shortest_27 (n + 1) (nI k) (nI x) N1 = f12_shortest_27 n (nI k) (nI (x + 1)) N1
          rw [stR n x hx, if_neg (fun e => hno x hx ((gp_oI (hws _) (by omega)).mp e))]
/-! promise 26: overlap -/
theorem gp_a26 (h : gp_Q B cu Mc Mr T l) (hB : B → gp_bnd T) (a b : Int32) : gp_ans B cu Mc Mr (f11_overlap a b Mc) (f12_overlap a b Mr) := by
  have hq := h
  obtain ⟨h1, h2, h3, h4, h5, h6, h7, h8⟩ := h
  have hcu := h6.1
  have hw1 := h1.1
  have ht : gp_tR (gz_w Mr 0 5 0) T := h3.fr (fun c c1 c2 => gp_wc _ (by omega)) (gp_gn (by omega))
  have no := gp_ansN hq (-1) (a := f11_overlap a b Mc) (b := f12_overlap a b Mr)
  rcases gp_isRuleE h1 h2 a with ⟨ha, hi⟩ | ⟨ha, ha2, hi⟩ | ⟨k, hk, rfl, hi⟩
  · refine no ?_ ?_
    · unfold f11_overlap; rw [if_pos ha]
    · unfold f12_overlap; rw [gp_eL, hi _ ht]; rfl
  · refine no ?_ ?_
    · unfold f11_overlap
      rw [if_neg ha, h2.1, if_pos ha2]
    · unfold f12_overlap; rw [gp_eL, hi _ ht]; rfl
  · rcases gp_isRuleE h1 h2 b with ⟨hb, hi2⟩ | ⟨hb, hb2, hi2⟩ | ⟨j, hj, rfl, hi2⟩
    · refine no ?_ ?_
      · unfold f11_overlap; rw [if_neg (nI_pos (by omega)), h2.1, if_neg (nI_ge hk (by omega)), if_pos hb]
      · unfold f12_overlap; rw [gp_eL, hi _ ht, gp_eB2, if_neg (by decide), hi2 _ ht]; rfl
    · refine no ?_ ?_
      · unfold f11_overlap; rw [if_neg (nI_pos (by omega)), h2.1, if_neg (nI_ge hk (by omega)), if_neg hb, if_pos hb2]
      · unfold f12_overlap; rw [gp_eL, hi _ ht, gp_eB2, if_neg (by decide), hi2 _ ht]; rfl
    · have cc : f11_overlap (nI k) (nI j) Mc = (if nI k = nI j then (some ((-1), Mc)) else (if nI (T.2.2 1 k) = nI (T.2.2 1 j) then (gz_bd (f8_explore 11 (nI (T.2.2 1 k)) Mc) fun M10 => f11_overlap_83 gz_FU (nI k) (nI j) 0 M10) else (some ((-3), Mc)))) := by
        unfold f11_overlap
        rw [if_neg (nI_pos (by omega)), h2.1, if_neg (nI_ge hk (by omega)), if_neg (nI_pos (by omega)), if_neg (nI_ge hj (by omega)), gp_ckb (by omega) (by omega), gp_ckb (by omega) (by omega), gp_ckb (by omega) (by omega), nI_clamp (by omega), nI_clamp (by omega), (h2.2.1 k hk).1, (h2.2.1 j hj).1]
      have rc : f12_overlap (nI k) (nI j) Mr = (if nI k = nI j then (some ((-1), gz_w Mr 0 5 0)) else (if nI (T.2.2 1 k) = nI (T.2.2 1 j) then (gz_bd (f12_layFound (nI (T.2.2 1 k)) (gz_w Mr 0 5 0)) fun M10 => f12_overlap_58 gz_FU (nI k) (nI j) 0 M10) else (some ((-3), gz_w Mr 0 5 0)))) := by
        unfold f12_overlap
        rw [gp_eL, hi _ ht, gp_eB2, if_neg (by decide), hi2 _ ht, gp_eB2, if_neg (by decide), gp_ckb (by omega) (by omega), gp_ckb (by omega) (by omega), gp_ckb (by omega) (by omega), nI_clamp (by omega), nI_clamp (by omega), (ht.2.1 k hk).1, (ht.2.1 j hj).1]
      by_cases hkj : k = j
      · exact no (by rw [cc, if_pos (by rw [hkj])]) (by rw [rc, if_pos (by rw [hkj])])
      · have hkj' : ¬ nI k = nI j := fun e => hkj ((nI_eq (by omega) (by omega)).mp e)
        rw [if_neg hkj'] at cc rc
        have hmk := (h1.2.1 k hk).1
        have hmj := (h1.2.1 j hj).1
        by_cases hmm : T.2.2 1 k = T.2.2 1 j
        · rw [if_pos (by rw [hmm])] at cc rc
          obtain ⟨M1, e1, e2, e3, e4⟩ := gp_explore (m := T.2.2 1 k) h1 hmk h2
          obtain ⟨N1, n1, n2, n3⟩ := gp_layFound (m := T.2.2 1 k) h1 hmk ht
          have hlen := e4.len
          have htC : gp_tC 11 M1 T := h2.fr (fun c c1 c2 => e2.2 c (by omega))
          have htR : gp_tR N1 T := n2.t ht
          have hbd := fun b => (hB b).2 k j
          rw [e1, gp_eB] at cc
          rw [n1, gp_eB] at rc
          have hck : T.2.2 5 k < 2 ^ 10 := gp_lt10 h1 hmk (h1.2.1 k hk).2.2.2.1
          have hcj : T.2.2 5 j < 2 ^ 10 := gp_lt10 h1 hmj (h1.2.1 j hj).2.2.2.1
          generalize hEe : gp_ex T (T.2.2 1 k) = E at *
          have an : ∀ q x, q < 2 ^ 10 → q &&& (E.getD x gp_e0).1 < 2 ^ 10 := fun q x hq => Nat.lt_of_le_of_lt Nat.and_le_left hq
          have zero : ∀ q : Nat, q < 2 ^ 10 → ((nI q = (0 : Int32)) ↔ q = 0) := fun q hq => nI_eq (b := 0) (by omega) (by omega)
          have stC : ∀ n x, x < E.length → f11_overlap_83 (n + 1) (nI k) (nI j) (nI x) M1 = if T.2.2 5 k &&& (E.getD x gp_e0).1 ≠ 0 ∧ T.2.2 5 j &&& (E.getD x gp_e0).1 ≠ 0 then (gz_bd2 (f11_tellRowTo (nI (E.getD x gp_e0).1) M1) fun v8 M9 => some (v8, M9)) else f11_overlap_83 n (nI k) (nI j) (nI (x + 1)) M1 := by
            intro n x hx
            rw [f11_overlap_83, e3.1, if_neg (nI_ge hx (by omega)), gp_ckb (by omega) (by omega), gp_eL, show (nI x).toNatClampNeg = x from nI_clamp (by omega), (e3.2.1 x hx).1, gp_ckb (by omega) (by omega), show (nI k).toNatClampNeg = k from nI_clamp (by omega), (htC.2.1 k hk).2.2.2.2.1, gp_ckb (by omega) (by omega), show (nI j).toNatClampNeg = j from nI_clamp (by omega), (htC.2.1 j hj).2.2.2.2.1, gp_and, gp_and, gp_eL, nI_1]
            have a1 := an _ x hck
            have a2 := an _ x hcj
            by_cases z1 : T.2.2 5 k &&& (E.getD x gp_e0).1 = 0
            · rw [if_pos ((zero _ a1).mpr z1), if_neg (fun h => h.1 z1)]
            · rw [if_neg (fun h => z1 ((zero _ a1).mp h))]
              by_cases z2 : T.2.2 5 j &&& (E.getD x gp_e0).1 = 0
              · rw [if_pos ((zero _ a2).mpr z2), if_neg (fun h => h.2 z2)]
              · rw [if_neg (fun h => z2 ((zero _ a2).mp h)), if_pos ⟨z1, z2⟩]
          have stR : ∀ n x, x < E.length → f12_overlap_58 (n + 1) (nI k) (nI j) (nI x) N1 = if T.2.2 5 k &&& (E.getD x gp_e0).1 ≠ 0 ∧ T.2.2 5 j &&& (E.getD x gp_e0).1 ≠ 0 then (gz_bd2 (f12_tellRow (nI x) N1) fun v8 M9 => some (v8, M9)) else f12_overlap_58 n (nI k) (nI j) (nI (x + 1)) N1 := by
            intro n x hx
            rw [f12_overlap_58, n3.1, if_neg (nI_ge hx (by omega)), gp_ckb (by omega) (by omega), gp_ckb (by omega) (by omega), show (nI x).toNatClampNeg = x from nI_clamp (by omega), show (nI k).toNatClampNeg = k from nI_clamp (by omega), (n3.2.1 x hx).1, (htR.2.1 k hk).2.2.2.2.2, gp_ckb (by omega) (by omega), gp_ckb (by omega) (by omega), show (nI j).toNatClampNeg = j from nI_clamp (by omega), (htR.2.1 j hj).2.2.2.2.2, gp_and, gp_and, gp_eL, nI_1, Nat.and_comm _ (T.2.2 5 k), Nat.and_comm _ (T.2.2 5 j)]
            have a1 := an _ x hck
            have a2 := an _ x hcj
            by_cases z1 : T.2.2 5 k &&& (E.getD x gp_e0).1 = 0
            · rw [if_pos ((zero _ a1).mpr z1), if_neg (fun h => h.1 z1)]
            · rw [if_neg (fun h => z1 ((zero _ a1).mp h))]
              by_cases z2 : T.2.2 5 j &&& (E.getD x gp_e0).1 = 0
              · rw [if_pos ((zero _ a2).mpr z2), if_neg (fun h => h.2 z2)]
              · rw [if_neg (fun h => z2 ((zero _ a2).mp h)), if_pos ⟨z1, z2⟩]
          rcases gp_firstE (fun x => T.2.2 5 k &&& (E.getD x gp_e0).1 ≠ 0 ∧ T.2.2 5 j &&& (E.getD x gp_e0).1 ≠ 0) E.length with ⟨h, hh, hP, hno⟩ | hno
          · obtain ⟨M2, N2, t1, t2, t3, t4, t5⟩ := gp_tells (cu := cu) h8 hcu e4 hh e3 n3 (e2.qq hcu) ((gp_thr 0).1.trans n2.qq) n2.1 ((n2.2.2 _ (by omega)).trans (gp_gn (by omega))) (fun b => by
              have := hbd b h hk hj hkj hmm
              exact this hh hP.1 hP.2 hno)
            refine ⟨nI (gp_pth E 1024 h).length, M2, N2, ?_, ?_, t3, t4, t5⟩
            · rw [cc]
              refine gp_forU (fun n x => f11_overlap_83 n (nI k) (nI j) (nI x) M1) h _ (fun n => ?_) (fun n x hx => ?_) gz_FU (by unfold gz_FU; omega)
              · show f11_overlap_83 (n + 1) (nI k) (nI j) (nI h) M1 = _
                rw [stC n h hh, if_pos hP, t1, gp_eB2]
              · show f11_overlap_83 (n + 1) (nI k) (nI j) (nI x) M1 = f11_overlap_83 n (nI k) (nI j) (nI (x + 1)) M1
                rw [stC n x (by omega), if_neg (hno x hx)]
            · rw [rc]
              refine gp_forU (fun n x => f12_overlap_58 n (nI k) (nI j) (nI x) N1) h _ (fun n => ?_) (fun n x hx => ?_) gz_FU (by unfold gz_FU; omega)
              · show f12_overlap_58 (n + 1) (nI k) (nI j) (nI h) N1 = _
                rw [stR n h hh, if_pos hP, t2, gp_eB2]
              · show f12_overlap_58 (n + 1) (nI k) (nI j) (nI x) N1 = f12_overlap_58 n (nI k) (nI j) (nI (x + 1)) N1
                rw [stR n x (by omega), if_neg (hno x hx)]
          · refine gp_ansK (v := -2) ?_ ?_ (e2.qq hcu) ((gp_thr 0).1.trans n2.qq) h8 e2.1 (by rw [e2.2 0 (by omega)]) n2.1 ((n2.2.2 _ (by omega)).trans (gp_gn (by omega)))
            · rw [cc]
              refine gp_forU (fun n x => f11_overlap_83 n (nI k) (nI j) (nI x) M1) E.length _ (fun n => ?_) (fun n x hx => ?_) gz_FU (by unfold gz_FU; omega)
              · show f11_overlap_83 (n + 1) (nI k) (nI j) (nI E.length) M1 = _
                rw [f11_overlap_83, e3.1, if_pos (nI_le (Nat.le_refl _) (by omega))]
              · show f11_overlap_83 (n + 1) (nI k) (nI j) (nI x) M1 = f11_overlap_83 n (nI k) (nI j) (nI (x + 1)) M1
                rw [stC n x hx, if_neg (hno x hx)]
            · rw [rc]
              refine gp_forU (fun n x => f12_overlap_58 n (nI k) (nI j) (nI x) N1) E.length _ (fun n => ?_) (fun n x hx => ?_) gz_FU (by unfold gz_FU; omega)
              · show f12_overlap_58 (n + 1) (nI k) (nI j) (nI E.length) N1 = _
                rw [f12_overlap_58, n3.1, if_pos (nI_le (Nat.le_refl _) (by omega))]
              · show f12_overlap_58 (n + 1) (nI k) (nI j) (nI x) N1 = f12_overlap_58 n (nI k) (nI j) (nI (x + 1)) N1
                rw [stR n x hx, if_neg (hno x hx)]
        · have hmm' : ¬ nI (T.2.2 1 k) = nI (T.2.2 1 j) := fun e => hmm ((nI_eq (by omega) (by omega)).mp e)
          rw [if_neg hmm'] at cc rc
          exact gp_ansN hq (-3) cc rc
end
