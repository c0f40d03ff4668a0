/-! promise 37: years -/
section
variable {B : Prop} {pf : Nat → Bool} {M M' Mc Mr Mc' Mr' C R : gz_M} {T : gp_T} {l x : List Nat} {b : gp_Bk} {us : List gp_Bk} {ks : Nat → Option gp_Bk} {cu o kd : Nat}
/-- an answer that lays row 1 of the reference anew, the same -/
theorem gp_RI.ans3 (h : gp_RI B pf cu Mc Mr x b us ks o) (e1 : gp_qC cu Mc Mc') (rc : ∀ c, c = 2 ∨ c = 21 ∨ c = 22 ∨ c = 33 → Mr'.1 c = Mr.1 c) (r1 : gp_rB 1 0 Mr' b) (r2 : Mr'.1 0 2 = Mr.1 0 2) (r51 : Mr'.1 0 51 = Mr.1 0 51) (ht : gp_tR Mr' (gp_tab b.1)) (hr : gp_rw B Mc' Mr') : gp_RI B pf cu Mc' Mr' x b us ks o := by
  obtain ⟨⟨q1, q2, q3, q4, q5, q6, q7, q8⟩, h2, h3, h4, h5, h6, h7, h8, h9, h10, h11⟩ := h
  have hcu := q6.1
  have hl : gp_lR Mr' b.2 := ⟨q5.1, by have := r1.2.2.1; rwa [Nat.zero_add] at this, fun i hi => ⟨by have := r1.2.2.2 i hi; rwa [Nat.zero_add] at this, (q5.2.2 i hi).2⟩⟩
  refine ⟨⟨q1, q2.fr (fun c c1 c2 => e1.1 c (by omega)), ht, q4.fr (fun c c1 c2 => e1.1 c (by omega)), hl, ⟨hcu, by rw [e1.2.1]; exact q6.2.1, q6.2.2.1.fr (fun c c1 c2 => e1.1 c (by omega)), q6.2.2.2⟩, by rw [e1.2.2]; exact q7, hr⟩, h2, h3.fr (e1.1 1 (by omega)) (e1.1 2 (by omega)), h4.fr (rc 2 (by omega)) r2, ?_, r1, h7, h8.fr (fun c hc => e1.1 c (by omega)), h9, h10.fr (rc 33 (by omega)) r51, h11.fr (fun _ _ _ => rfl) (fun c hc => e1.1 c (by omega)) (fun c hc => rc c (by omega))⟩
  obtain ⟨a1, a2, a3⟩ := h5
  exact ⟨a1, by rw [e1.1 7 (by omega)]; exact a2, fun i hi => by rw [e1.1 8 (by omega)]; exact a3 i hi⟩
theorem gq_draw3 (r : Int32) : ∃ kd, kd < 3 ∧ gz_rem (gz_ushr r 16) 3 = nI kd := by
  have hu : (gz_ushr r 16).toBitVec.toNat = r.toBitVec.toNat / 2 ^ 16 := pk_ushr r 16 16 (by decide)
  have hr := r.toBitVec.isLt
  generalize gz_ushr r 16 = z at hu
  have hz : z.toBitVec.toNat < 65536 := by omega
  have ht : z.toInt = if 2 * z.toBitVec.toNat < 4294967296 then (z.toBitVec.toNat : Int) else (z.toBitVec.toNat : Int) - 4294967296 := BitVec.toInt_eq_toNat_cond z.toBitVec
  rw [if_pos (by omega)] at ht
  refine ⟨z.toBitVec.toNat % 3, Nat.mod_lt _ (by omega), ?_⟩
  have hm : z.toBitVec.toNat % 3 < 3 := Nat.mod_lt _ (by omega)
  apply Int32.toInt_inj.mp
  rw [gp_remE, Int32.toInt_mod, nI_toInt (by omega), ht, show ((3 : Int32)).toInt = 3 from rfl]
  rfl
def gq_yL (R R' : gz_M) : Prop := R'.2 = R.2 ∧ (∀ c, c ≠ 0 → c ≠ 1 → R'.1 c = R.1 c) ∧ ∀ i, i ≠ 54 → R'.1 0 i = R.1 0 i
theorem gq_yL.trans {M1 M2 M3 : gz_M} (a : gq_yL M1 M2) (b : gq_yL M2 M3) : gq_yL M1 M3 := ⟨b.1.trans a.1, fun c h h' => (b.2.1 c h h').trans (a.2.1 c h h'), fun i h => (b.2.2 i h).trans (a.2.2 i h)⟩
theorem gq_yr1 (hk : kd < 3) (hC : gp_lC 58 C l) (hR : gp_lR R l) (q s : Int32) (hs : kd = 2 → s = 0) : ∃ C' R' l', f5_change 58 (nI kd) q s C = some C' ∧ (∀ (c50 : Int32 → Int32 → gz_M → Option (Int32 × gz_M)) (x2 x3 : Int32), f12_years_86 c50 x2 x3 (nI kd) q s R = c50 x2 (x3 + 1) R') ∧ gp_lL 58 C C' ∧ gp_lC 58 C' l' ∧ R'.2 = R.2 ∧ (∀ c, c ≠ 1 → R'.1 c = R.1 c) ∧ gp_lR R' l' := by
  rcases gq_ref hC hR hk q s hs with ⟨v, v1, v2, v3, v4⟩ | ⟨j, z, rfl, rfl, g1, g2, g3⟩
  · refine ⟨C, R, l, ?_, fun c50 x2 x3 => ?_, ⟨rfl, fun _ _ _ => rfl⟩, hC, rfl, fun _ _ => rfl, hR⟩
    · unfold f5_change
      rw [v3, gp_eB2, if_neg v1]
    · unfold f12_years_86
      rw [v4, gp_eB2, if_neg v2, gp_eL]
  · obtain ⟨C', c1, c2, c3⟩ := gq_doC hk hC g1 g2
    obtain ⟨R', r1, r2, r3, r4, r5⟩ := gq_doR hk hR g1
    refine ⟨C', R', _, c1, fun c50 x2 x3 => ?_, c2, c3, r2, r3, r5⟩
    unfold f12_years_86
    rw [g3, gp_eB2, if_pos rfl, r1, gp_eB, gp_eL]
theorem gq_drwC (a : Int32) {n : Int32} (h : ¬ n ≤ 0) (h' : ¬ n = 0) (N : gz_M) : f11_drawn a n N = some (gz_rem (gz_ushr a 16) n, N) := by
  unfold f11_drawn
  rw [if_neg h, decide_eq_false h', Bool.not_false, gp_eC]
theorem gq_drwR {n r : Int32} (h' : ¬ n = 0) (h54 : R.1 0 54 = r) : f12_draw n R = some (gz_rem (gz_ushr (r * 1103515245 + 12345) 16) n, gz_w R 0 54 (r * 1103515245 + 12345)) := by
  unfold f12_draw
  rw [gp_eL, decide_eq_false h', Bool.not_false, gp_eC, gp_gs, h54]
theorem gq_yw (v : Int32) : gq_yL R (gz_w R 0 54 v) := ⟨rfl, fun c h _ => gp_wc _ (by omega), fun i h => gp_gn (by omega)⟩
/-- one year -/
theorem gq_yr {n k N : Nat} {r : Int32} (hk : k < N) (hN : N ≤ 20) (hC : gp_lC 58 C l) (hR : gp_lR R l) (h54 : R.1 0 54 = r) : ∃ C' R' l' r', f11_years_32 (n + 1) (nI N) r (nI k) C = f11_years_32 n (nI N) r' (nI (k + 1)) C' ∧ f12_years_50 (n + 1) (nI N) (nI k) R = f12_years_50 n (nI N) (nI (k + 1)) R' ∧ gp_lL 58 C C' ∧ gp_lC 58 C' l' ∧ gq_yL R R' ∧ gp_lR R' l' ∧ R'.1 0 54 = r' := by
  obtain ⟨a, ha⟩ : ∃ a : Int32, a = r * 1103515245 + 12345 := ⟨_, rfl⟩
  obtain ⟨d, hd⟩ : ∃ d : Int32, d = a * 1103515245 + 12345 := ⟨_, rfl⟩
  obtain ⟨e, he⟩ : ∃ e : Int32, e = d * 1103515245 + 12345 := ⟨_, rfl⟩
  obtain ⟨kd, hkd, ekd⟩ := gq_draw3 a
  obtain ⟨R1, hR1⟩ : ∃ R1, R1 = gz_w R 0 54 a := ⟨_, rfl⟩
  obtain ⟨R2, hR2⟩ : ∃ R2, R2 = gz_w R1 0 54 d := ⟨_, rfl⟩
  obtain ⟨R3, hR3⟩ : ∃ R3, R3 = gz_w R2 0 54 e := ⟨_, rfl⟩
  have y1 : gq_yL R R1 := by rw [hR1]; exact gq_yw _
  have y2 : gq_yL R R2 := y1.trans (by rw [hR2]; exact gq_yw _)
  have y3 : gq_yL R R3 := y2.trans (by rw [hR3]; exact gq_yw _)
  have o1 : R1.1 0 54 = a := by rw [hR1]; exact gp_gs _ _ _ _
  have o2 : R2.1 0 54 = d := by rw [hR2]; exact gp_gs _ _ _ _
  have o3 : R3.1 0 54 = e := by rw [hR3]; exact gp_gs _ _ _ _
  have l1 : R1.1 1 = R.1 1 := by rw [hR1]; exact gp_wc _ (by omega)
  have l2 : R2.1 1 = R.1 1 := by rw [hR2, ← l1]; exact gp_wc _ (by omega)
  have l3 : R3.1 1 = R.1 1 := by rw [hR3, ← l2]; exact gp_wc _ (by omega)
  have d1 : f12_draw 3 R = some (nI kd, R1) := by rw [gq_drwR (n := 3) (by decide) h54, ← ha, ekd, ← hR1]
  have d2 : f12_draw 24 R1 = some (gz_rem (gz_ushr d 16) 24, R2) := by rw [gq_drwR (n := 24) (by decide) o1, ← hd, ← hR2]
  have d3 : f12_draw 8 R2 = some (gz_rem (gz_ushr e 16) 8, R3) := by rw [gq_drwR (n := 8) (by decide) o2, ← he, ← hR3]
  have hc : f11_years_32 (n + 1) (nI N) r (nI k) C = if nI kd = 2 then f11_years_85 (f11_years_32 n) (nI N) d (nI k) (nI kd) (gz_rem (gz_ushr d 16) 24) 0 C else f11_years_85 (f11_years_32 n) (nI N) e (nI k) (nI kd) (gz_rem (gz_ushr d 16) 24) (gz_rem (gz_ushr e 16) 8) C := by
    rw [f11_years_32, if_neg (nI_ge hk (by omega))]
    unfold f11_nextOf
    rw [gp_eB2, ← ha, gq_drwC a (n := 3) (by decide) (by decide), gp_eB2, ekd, gp_eB2, ← hd, gq_drwC d (n := 24) (by decide) (by decide), gp_eB2, gp_eB2, ← he, gq_drwC e (n := 8) (by decide) (by decide), gp_eB2]
  have hr : f12_years_50 (n + 1) (nI N) (nI k) R = if nI kd = 2 then f12_years_86 (f12_years_50 n) (nI N) (nI k) (nI kd) (gz_rem (gz_ushr d 16) 24) 0 R2 else f12_years_86 (f12_years_50 n) (nI N) (nI k) (nI kd) (gz_rem (gz_ushr d 16) 24) (gz_rem (gz_ushr e 16) 8) R3 := by
    rw [f12_years_50, if_neg (nI_ge hk (by omega)), d1, gp_eB2, d2, gp_eB2, d3, gp_eB2]
  rw [hc, hr]
  by_cases g : kd = 2
  · obtain ⟨C', R', l', f1, f2, f3, f4, f5, f6, f7⟩ := gq_yr1 hkd hC (hR.fr l2) (gz_rem (gz_ushr d 16) 24) 0 (fun _ => rfl)
    refine ⟨C', R', l', d, ?_, ?_, f3, f4, y2.trans ⟨f5, fun c _ h => f6 c h, fun i _ => by rw [f6 0 (by omega)]⟩, f7, by rw [f6 0 (by omega)]; exact o2⟩
    · rw [if_pos (by rw [g]; rfl)]
      unfold f11_years_85
      rw [f1, gp_eB, nI_1, gp_eL]
    · rw [if_pos (by rw [g]; rfl), f2, nI_1]
  · obtain ⟨C', R', l', f1, f2, f3, f4, f5, f6, f7⟩ := gq_yr1 hkd hC (hR.fr l3) (gz_rem (gz_ushr d 16) 24) (gz_rem (gz_ushr e 16) 8) (fun h => absurd h g)
    have hn : ¬ nI kd = (2 : Int32) := fun h => g ((nI_eq (b := 2) (by omega) (by omega)).mp h)
    refine ⟨C', R', l', e, ?_, ?_, f3, f4, y3.trans ⟨f5, fun c _ h => f6 c h, fun i _ => by rw [f6 0 (by omega)]⟩, f7, by rw [f6 0 (by omega)]; exact o3⟩
    · rw [if_neg hn]
      unfold f11_years_85
      rw [f1, gp_eB, nI_1, gp_eL]
    · rw [if_neg hn, f2, nI_1]
theorem gq_yrs {N : Nat} (hN : N ≤ 20) : ∀ (d k n : Nat) (C R : gz_M) (l : List Nat) (r : Int32), k + d = N → d < n → gp_lC 58 C l → gp_lR R l → R.1 0 54 = r → ∃ C' R' l' r' n', f11_years_32 n (nI N) r (nI k) C = f11_years_32 (n' + 1) (nI N) r' (nI N) C' ∧ f12_years_50 n (nI N) (nI k) R = f12_years_50 (n' + 1) (nI N) (nI N) R' ∧ gp_lL 58 C C' ∧ gp_lC 58 C' l' ∧ gq_yL R R' ∧ gp_lR R' l' := by
  intro d
  induction d with
  | zero =>
    intro k n C R l r hk hn hC hR h54
    obtain ⟨n, rfl⟩ : ∃ z, n = z + 1 := ⟨n - 1, by omega⟩
    rw [show k = N by omega]
    exact ⟨C, R, l, r, n, rfl, rfl, ⟨rfl, fun _ _ _ => rfl⟩, hC, ⟨rfl, fun _ _ _ => rfl, fun _ _ => rfl⟩, hR⟩
  | succ d ih =>
    intro k n C R l r hk hn hC hR h54
    obtain ⟨n, rfl⟩ : ∃ z, n = z + 1 := ⟨n - 1, by omega⟩
    obtain ⟨C1, R1, l1, r1, e1, e2, e3, e4, e5, e6, e7⟩ := gq_yr (n := n) (show k < N by omega) hN hC hR h54
    obtain ⟨C2, R2, l2, r2, n2, f1, f2, f3, f4, f5, f6⟩ := ih (k + 1) n C1 R1 l1 r1 (by omega) (by omega) e4 e6 e7
    exact ⟨C2, R2, l2, r2, n2, e1.trans f1, e2.trans f2, ⟨f3.1.trans e3.1, fun c c1 c2 => (f3.2 c c1 c2).trans (e3.2 c c1 c2)⟩, f4, e5.trans f5, f6⟩
theorem gp_a37 (h : gp_RI B pf cu Mc Mr x b us ks o) (a0 a1 : Int32) : ∃ v Mc' Mr', f11_years a0 a1 Mc = some (v, Mc') ∧ f12_years a0 a1 Mr = some (v, Mr') ∧ gp_R B pf Mc' Mr' := by
  have hR := h
  have hq := h.1
  obtain ⟨⟨h1, h2, h3, h4, h5, h6, h7, h8⟩, hb, _, _, _, hB1, _⟩ := h
  have hcu := h6.1
  have no : f11_years a0 a1 Mc = some (-1, Mc) → f12_years a0 a1 Mr = some (-1, gz_w Mr 0 5 0) → ∃ v Mc' Mr', f11_years a0 a1 Mc = some (v, Mc') ∧ f12_years a0 a1 Mr = some (v, Mr') ∧ gp_R B pf Mc' Mr' := fun e1 e2 => hR.q (gp_ansN hq (-1) e1 e2)
  rcases pk_ix a1 (n := 21) (by omega) with ha | ha | ⟨N, hN, rfl⟩
  · have g : a1 < 1 := by
      rw [Int32.lt_iff_toInt_lt] at ha ⊢
      exact Int.lt_trans ha (by decide)
    refine no ?_ ?_
    · unfold f11_years; rw [if_pos g]
    · unfold f12_years f12_in; rw [gp_eL, if_pos g, gp_eB2, if_pos rfl]
  · have g0 := gp_tge (by omega) ha
    have g : ¬ a1 < 1 := fun g => by
      rw [Int32.lt_iff_toInt_lt, show ((1 : Int32)).toInt = 1 from rfl] at g
      omega
    have g1 : ¬ a1 ≤ 20 := fun g => by
      rw [Int32.le_iff_toInt_le, show ((20 : Int32)).toInt = 20 from rfl] at g
      omega
    have g2 : (20 : Int32) < a1 := by
      rw [Int32.lt_iff_toInt_lt, show ((20 : Int32)).toInt = 20 from rfl]
      omega
    refine no ?_ ?_
    · unfold f11_years; rw [if_neg g, if_neg g1]
    · unfold f12_years f12_in; rw [gp_eL, if_neg g, if_pos g2, gp_eB2, if_pos rfl]
  · by_cases hN0 : N = 0
    · subst hN0
      refine no ?_ ?_
      · unfold f11_years; rw [if_pos (by decide)]
      · unfold f12_years f12_in; rw [gp_eL, if_pos (by decide), gp_eB2, if_pos rfl]
    · have g : ¬ nI N < (1 : Int32) := nI_nlt (b := 1) (by omega) (by omega)
      have g1 : nI N ≤ (20 : Int32) := nI_le (b := 20) (by omega) (by omega)
      have g2 : ¬ (20 : Int32) < nI N := nI_nlt (a := 20) (by omega) (by omega)
      obtain ⟨C1, c1, c2, c3, c4⟩ := gp_lcp (l := b.2) (k := 58) (k0 := 9) (by omega) Mc
      obtain ⟨R1, hR1⟩ : ∃ R1, R1 = gz_w (gz_w Mr 0 5 0) 0 54 a0 := ⟨_, rfl⟩
      obtain ⟨R2, hR2⟩ : ∃ R2, R2 = gp_fl R1 34 0 106 (fun i => R1.1 1 i) := ⟨_, rfl⟩
      have cpy : f12_years_24 gz_FU (nI N) (nI 0) R1 = f12_years_50 gz_FU (nI N) 0 R2 := by
        rw [hR2]
        refine gp_fl_l (M := R1) (c := 34) (o := 0) (N := 106) (v := fun i => R1.1 1 i) (fun n a M => f12_years_24 n (nI N) a M) (fun M1 => f12_years_50 gz_FU (nI N) 0 M1) (fun n => ?_) (fun n i hi => ?_) gz_FU (by unfold gz_FU; omega)
        · show f12_years_24 (n + 1) _ _ _ = _
          rw [f12_years_24, if_pos (show (106 : Int32) ≤ nI 106 by decide)]
        · show f12_years_24 (n + 1) _ _ _ = f12_years_24 n _ _ _
          rw [f12_years_24, if_neg (show ¬ (106 : Int32) ≤ nI i from nI_ge (b := 106) hi (by omega)), gp_ckb (show i < 106 by omega) (by omega), gp_ckb (show i < 106 by omega) (by omega), nI_clamp (by omega), gp_fl_c (by omega), gp_eL, gp_eL, nI_1, Nat.zero_add]
      have w1 : R2.1 1 = Mr.1 1 := by rw [hR2, gp_fl_c (by omega), hR1, gp_wc _ (by omega), gp_wc _ (by omega)]
      have w0 : ∀ i, i ≠ 5 → i ≠ 54 → R2.1 0 i = Mr.1 0 i := fun i i1 i2 => by rw [hR2, gp_fl_c (by omega), hR1, gp_gn (by omega), gp_gn (by omega)]
      have wc : ∀ c, c ≠ 0 → c ≠ 34 → R2.1 c = Mr.1 c := fun c i1 i2 => by rw [hR2, gp_fl_c (by omega), hR1, gp_wc _ (by omega), gp_wc _ (by omega)]
      have w34 : ∀ i, i < 106 → R2.1 34 i = Mr.1 1 i := fun i hi => by
        have := gp_fl_i (M := R1) (c := 34) (o := 0) (N := 106) (v := fun i => R1.1 1 i) hi
        rw [Nat.zero_add] at this
        rw [hR2, this, hR1, gp_gn (by omega), gp_gn (by omega)]
      have w54 : R2.1 0 54 = a0 := by rw [hR2, gp_fl_c (by omega), hR1]; exact gp_gs _ _ _ _
      obtain ⟨C2, R3, l', r', n', s1, s2, s3, s4, s5, s6⟩ := gq_yrs (N := N) (by omega) N 0 gz_FU C1 R2 b.2 a0 (by omega) (by unfold gz_FU; omega) (c4 h4) (h5.fr w1) w54
      -- the component's end
      have t2 : gp_tC 11 C2 (gp_tab b.1) := h2.fr (fun c d1 d2 => by rw [s3.2 c (by omega) (by omega), c3 c (by omega) (by omega)])
      have k8 : gz_cIx (C2.1 0 8) = 90 - cu := by rw [s3.2 0 (by omega) (by omega), c3 0 (by omega) (by omega)]; exact h7
      obtain ⟨C3, m1, m2, m3, m4⟩ := gp_make (k := 90 - cu) (k0 := 11) (k1 := 58) h1 (by omega) (by omega) t2 s4
      have hok := gp_cut_ok (l := l') h1
      have hlen := gp_cut_len (T := gp_tab b.1) (l := l')
      have t3 : gp_tC 11 C3 (gp_tab b.1) := t2.fr (fun c d1 d2 => m3 c (by omega))
      have l3 : gp_lC 58 C3 l' := s4.fr (fun c d1 d2 => m3 c (by omega))
      obtain ⟨C4, cs, K4, a1, a2, a3, a4⟩ := gq_rem (k1 := 58) (k2 := 90 - cu) h1 (by omega) (by omega) hok (gq_tkR_cut (T := gp_tab b.1) (l := l')) hlen ⟨t3, l3, m4⟩
      obtain ⟨C5, C6, C7, p1, p2, p3, p4, p5, p6, p7⟩ := gp_tell3C C4 (nI (gp_stk (gp_cut (gp_tab b.1) l'))).toInt64 (nI l'.length).toInt64 (nI (gq_mem (gp_tab b.1) l' (gp_cut (gp_tab b.1) l') []).2).toInt64
      have k83 : gz_cIx (C3.1 0 8) = 90 - cu := by rw [m3 0 (by omega)]; exact k8
      have k84 : gz_cIx (C4.1 0 8) = 90 - cu := by rw [a2.2 0 (by omega)]; exact k83
      have c44 : gp_cC (90 - cu) C4 (gp_cut (gp_tab b.1) l') := m4.fr (fun c d1 d2 => a2.2 c (by omega))
      have ec : f11_years a0 (nI N) Mc = some (nI (gp_cut (gp_tab b.1) l').length, C7) := by
        unfold f11_years
        rw [if_neg g, if_pos g1, show (7 + 2 : Nat) = 9 from rfl, c1, gp_eB]
        refine s1.trans ?_
        have e7 : gz_cIx ((gz_w C4 0 15 0).1 0 8) = 90 - cu := by rw [gp_gn (by omega)]; exact k84
        have es : f2_stuckTokens (90 - cu) (gz_w C4 0 15 0) = some (nI (gp_stk (gp_cut (gp_tab b.1) l')), gz_w C4 0 15 0) := gp_stuckC h1 hok (c44.fr (fun c d1 d2 => gp_wc _ (by omega))) hlen
        have e58 : C5.1 58 1 = nI l'.length := by rw [p6.1 58 (by omega), a2.2 58 (by omega)]; exact l3.2.1
        have e69 : C6.1 69 4 = nI (gq_mem (gp_tab b.1) l' (gp_cut (gp_tab b.1) l') []).2 := by rw [p7.1 69 (by omega)]; exact a3.2.2
        have e78 : gz_cIx (C7.1 0 8) = 90 - cu := by rw [p4.2 8 (by omega)]; exact k84
        have e7v : C7.1 (90 - cu) 0 = nI (gp_cut (gp_tab b.1) l').length := by rw [p4.1 _ (by omega)]; exact c44.1
        rw [f11_years_32, if_pos (nI_le (Nat.le_refl _) (by omega)), k8, m1, gp_eB, k83, a1, gp_eB, gp_eL, e7, es, gp_eB2, p1, gp_eB, e58, p2, gp_eB, e69, p3, gp_eB, e78, e7v]
      -- the reference's end
      have u1 : gp_tR R3 (gp_tab b.1) := h3.fr (fun c d1 d2 => by rw [s5.2.1 c (by omega) (by omega), wc c (by omega) (by omega)]) (by rw [s5.2.2 10 (by omega), w0 10 (by omega) (by omega)])
      obtain ⟨R4, v1, v2, v3, v4, v5, v6⟩ := gq_cutAll1 (l := l') h1 u1 s6
      have vs := gq_stuckR2 (M := R4) h1 hok v3 v6 hlen
      obtain ⟨R5, hR5⟩ : ∃ R5, R5 = gp_fl R4 1 0 106 (fun i => R4.1 34 i) := ⟨_, rfl⟩
      obtain ⟨R6, R7, R8, q1, q2, q3, q4, q5⟩ := gp_tell3R R5 (nI (gp_stk (gp_cut (gp_tab b.1) l'))).toInt64 (nI l'.length).toInt64 (nI (gq_mem (gp_tab b.1) l' (gp_cut (gp_tab b.1) l') []).2).toInt64
      have back : f12_years_146 gz_FU (nI (gq_mem (gp_tab b.1) l' (gp_cut (gp_tab b.1) l') []).2) (nI l'.length) (nI (gp_cut (gp_tab b.1) l').length) (nI (gp_stk (gp_cut (gp_tab b.1) l'))) (nI 0) R4 = some (nI (gp_cut (gp_tab b.1) l').length, R8) := by
        have e := gp_fl_l (M := R4) (c := 1) (o := 0) (N := 106) (v := fun i => R4.1 34 i) (fun n a M => f12_years_146 n (nI (gq_mem (gp_tab b.1) l' (gp_cut (gp_tab b.1) l') []).2) (nI l'.length) (nI (gp_cut (gp_tab b.1) l').length) (nI (gp_stk (gp_cut (gp_tab b.1) l'))) a M) (fun M1 => f12_years_146 1 (nI (gq_mem (gp_tab b.1) l' (gp_cut (gp_tab b.1) l') []).2) (nI l'.length) (nI (gp_cut (gp_tab b.1) l').length) (nI (gp_stk (gp_cut (gp_tab b.1) l'))) (nI 106) M1) (fun n => ?_) (fun n i hi => ?_) gz_FU (by unfold gz_FU; omega)
        · rw [← hR5, f12_years_146, if_pos (show (106 : Int32) ≤ nI 106 by decide), gp_eL, q1, gp_eB, q2, gp_eB, q3, gp_eB] at e
          exact e
        · show f12_years_146 (n + 1) _ _ _ _ _ _ = f12_years_146 1 _ _ _ _ _ _
          rw [f12_years_146, f12_years_146, if_pos (show (106 : Int32) ≤ nI 106 by decide), if_pos (show (106 : Int32) ≤ nI 106 by decide)]
        · show f12_years_146 (n + 1) _ _ _ _ _ _ = f12_years_146 n _ _ _ _ _ _
          rw [f12_years_146, if_neg (show ¬ (106 : Int32) ≤ nI i from nI_ge (b := 106) hi (by omega)), gp_ckb (show i < 106 by omega) (by omega), gp_ckb (show i < 106 by omega) (by omega), nI_clamp (by omega), gp_fl_c (by omega), gp_eL, gp_eL, nI_1, Nat.zero_add]
      have l4 : gp_lR R4 l' := s6.fr (v2.2.1 1 (by omega) (by omega))
      have er : f12_years a0 (nI N) Mr = some (nI (gp_cut (gp_tab b.1) l').length, R8) := by
        unfold f12_years f12_in
        rw [gp_eL, if_neg g, if_neg g2, gp_eB2, if_neg (by decide), gp_eL, ← hR1]
        refine (cpy.trans s2).trans ?_
        rw [f12_years_50, if_pos (nI_le (Nat.le_refl _) (by omega))]
        unfold f12_readWithMemory
        rw [v1, gp_eB, gp_eB2, gp_c81, gp_eL, gp_k81, l4.2.1, gp_eL, vs, gp_eB2, v3, v4]
        exact back
      refine ⟨_, C7, R8, ec, er, cu, x, b, us, ks, o, hR.ans3 ?_ ?_ ?_ ?_ ?_ ?_ ⟨_, _, ?_, ?_, p5, q5, fun _ => rfl⟩⟩
      · refine ⟨fun c hc => ?_, ?_, ?_⟩
        · rw [p4.1 c (by omega), a2.2 c (by omega), m3 c (by omega), s3.2 c (by omega) (by omega), c3 c (by omega) (by omega)]
        · rw [p4.2 5 (by omega), a2.2 0 (by omega), m3 0 (by omega), s3.2 0 (by omega) (by omega), c3 0 (by omega) (by omega)]
        · rw [p4.2 8 (by omega), a2.2 0 (by omega), m3 0 (by omega), s3.2 0 (by omega) (by omega), c3 0 (by omega) (by omega)]
      · intro c hc
        rw [q4.1 c (by omega), hR5, gp_fl_c (by omega), v2.2.1 c (by omega) (by omega), s5.2.1 c (by omega) (by omega), wc c (by omega) (by omega)]
      · refine hB1.cp (by have := hb.1.1; omega) hb.2.2.1 (fun i hi => ?_)
        have := gp_fl_i (M := R4) (c := 1) (o := 0) (N := 106) (v := fun i => R4.1 34 i) hi
        rw [q4.1 1 (by omega), hR5, this, Nat.zero_add, v2.2.1 34 (by omega) (by omega), s5.2.1 34 (by omega) (by omega), w34 i hi]
      · rw [q4.2 2 (by omega), hR5, gp_fl_c (by omega), v2.2.2 2 (by omega) (by omega) (by omega) (by omega) (by omega), s5.2.2 2 (by omega), w0 2 (by omega) (by omega)]
      · rw [q4.2 51 (by omega), hR5, gp_fl_c (by omega), v2.2.2 51 (by omega) (by omega) (by omega) (by omega) (by omega), s5.2.2 51 (by omega), w0 51 (by omega) (by omega)]
      · exact u1.fr (fun c d1 d2 => by rw [q4.1 c (by omega), hR5, gp_fl_c (by omega), v2.2.1 c (by omega) (by omega)]) (by rw [q4.2 10 (by omega), hR5, gp_fl_c (by omega), v2.2.2 10 (by omega) (by omega) (by omega) (by omega) (by omega)])
      · simp
      · simp
end
