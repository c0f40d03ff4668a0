/-! promise 35: day -/
section
variable {B : Prop} {pf pf' : Nat → Bool} {M M' Mc Mr Mc' Mr' C R Q : gz_M} {cu cu' o o' kd : Nat} {x x' t l l' : List Nat} {b u : gp_Bk} {us us' : List gp_Bk} {ks ks' : Nat → Option gp_Bk}
theorem gq_ps_ok (h : ∀ u, u ∈ us → gp_okB u) (hb : gp_okB b) : ∀ u, u ∈ gq_ps us b → gp_okB u := by
  intro u hu
  unfold gq_ps at hu
  rcases List.mem_append.mp hu with hu | hu
  · split at hu
    · exact h u (List.mem_of_mem_drop hu)
    · exact h u hu
  · rw [List.mem_singleton.mp hu]
    exact hb
theorem gp_a35 (h : gp_RI B pf cu Mc Mr x b us ks o) : gp_call B (g11_day Mc pf) (f12_day Mr) := by
  have hR := h
  obtain ⟨⟨q1, q2, q3, q4, q5, q6, q7, q8⟩, h2, h3, h4, h5, h6, h7, h8, h9, h10, h11⟩ := h
  have hcu := q6.1
  have h80 := h3.1
  obtain ⟨M2, b1, b2, b3⟩ := gp_begin (M := gz_w Mr 0 5 0) (h4.fr (gp_wc _ (by omega)) (gp_gn (by omega)))
  obtain ⟨M3, l1, l2, l3⟩ := gq_day11 (x := x) x.length 0 0 gz_FU M2 (by omega) (by unfold gz_FU; omega) b3 (by omega)
  have m3_2 : M3.2 = Mr.2 := by rw [l1.1, b2.1]; rfl
  have m3_c : ∀ c, c ≠ 0 → c ≠ 4 → c ≠ 35 → M3.1 c = Mr.1 c := fun c e1 e2 e3 => by rw [l1.2.1 c e1 e3, b2.2.1 c e1 e2, gp_wc _ e1]
  have m3_0 : ∀ i, i ≠ 2 → i ≠ 5 → i ≠ 7 → i ≠ 8 → i ≠ 9 → M3.1 0 i = Mr.1 0 i := fun i a1 a2 a3 a4 a5 => by rw [l1.2.2 i a4 a5, b2.2.2.1 i a1 a3 a4 a5, gp_gn (by omega)]
  have m3_02 : M3.1 0 2 = 0 := by rw [l1.2.2 2 (by omega) (by omega)]; exact b2.2.2.2
  have start : f12_day Mr = f12_day_11 gz_FU (nI 0) M2 := by
    unfold f12_day
    rw [gp_eL, b1, gp_eB]
    rfl
  have cf : f3_faultOfDay Mc = some (gp_ans1 (gq_dy x x.length 0).1, Mc) := by
    unfold f3_faultOfDay
    exact gq_dyC h3 x.length 0 gz_FU (-1) (by omega) (by omega) (by unfold gz_FU; omega)
  rcases l3 with ⟨q, g1, g2, g3⟩ | ⟨g1, g2, g3, g4⟩
  · obtain ⟨n1, n2⟩ := gp_neg1 q (by omega)
    rw [g1] at cf
    refine ⟨(-1) - nI q, gz_w Mc 1 1 0, pf, M3, ?_, by rw [start]; exact g3, cu, [], b, us, ks, o, hR.emp rfl (fun c e1 e2 => gp_wc _ e1) (gp_gs _ _ _ _) m3_2 (fun c e1 e2 e3 => m3_c c (by omega) (by omega) e3) (m3_0 4 (by omega) (by omega) (by omega) (by omega) (by omega)) (m3_0 51 (by omega) (by omega) (by omega) (by omega) (by omega)) m3_02 (q3.fr (fun c c1 c2 => m3_c c (by omega) (by omega) (by omega)) (m3_0 10 (by omega) (by omega) (by omega) (by omega) (by omega)))⟩
    unfold g11_day
    rw [cf, gp_eB2, if_neg (show ¬ 0 ≤ gp_ans1 (some q) from n2)]
    unfold g11_day_24
    rw [gp_emptyC, gp_eB]
    rfl
  · rw [g1] at cf
    rw [Nat.zero_add] at g3 g4
    -- the reference lays its state aside
    have rb3 : gp_rB 1 0 M3 b := h6.fr (m3_c 1 (by omega) (by omega) (by omega))
    obtain ⟨Q, t1, t2, t3, t4⟩ := gp_thenL (f := fun n a M => f12_day_58 n (nI (gq_dy x x.length 0).2.length) a M) (K := fun M1 => f12_day_84 gz_FU (nI (gq_dy x x.length 0).2.length) 0 M1) (fun n M1 => by
      show f12_day_58 (n + 1) _ _ _ = _
      rw [f12_day_58, if_pos (show (106 : Int32) ≤ nI 106 by decide)]) (fun n i M1 hi => by
      show f12_day_58 (n + 1) _ _ _ = f12_day_58 n _ _ _
      rw [f12_day_58, if_neg (show ¬ (106 : Int32) ≤ nI i from nI_ge (b := 106) hi (by omega)), gp_ckb (show i < 106 by omega) (by omega), gp_ckb (show i < 106 by omega) (by omega), nI_clamp (by omega), gp_eL, gp_eL, nI_1]) M3 h2 rb3
    have qc : ∀ c, c ≠ 0 → c ≠ 4 → c ≠ 34 → c ≠ 35 → Q.1 c = Mr.1 c := fun c e1 e2 e3 e4 => by rw [t3 c e3, m3_c c e1 e2 e4]
    have q0 : ∀ i, Q.1 0 i = M3.1 0 i := fun i => by rw [t3 0 (by omega)]
    have hlQ : gp_lR Q b.2 := q5.fr (qc 1 (by omega) (by omega) (by omega) (by omega))
    obtain ⟨C1, R1, pf2, l', d', bar, f1, f2, f3, f4, f5⟩ := gq_dayJ (pf := pf) (Mc := Mc) (us := us) (b := b) (x := x) (Q := Q) h5 h3 x.length 0 0 gz_FU gz_FU Mc Q pf b.2 (by omega) (by omega) (by unfold gz_FU; omega) (by unfold gz_FU; omega) g1 ⟨rfl, fun _ _ _ _ _ => rfl, q4, h7, fun _ _ _ => rfl, ⟨o, by rw [if_pos rfl]; exact h8⟩, fun _ => rfl⟩ ⟨rfl, fun _ _ => rfl, fun _ _ => rfl, hlQ⟩ (fun j hj => by
      obtain ⟨z1, z2, z3⟩ := g2 j hj
      exact ⟨by rw [t3 35 (by omega)]; exact z1, by rw [t3 35 (by omega)]; exact z2, by rw [t3 35 (by omega)]; exact z3⟩) (by rw [Nat.zero_add]; omega)
    rw [Nat.zero_add] at f2 f5
    obtain ⟨a1, a2, a3, a4, a5, ⟨o', a6⟩, a7⟩ := f3
    obtain ⟨r1, r2, r3, r4⟩ := f4
    have hd80 : d' ≤ 80 := by omega
    have hN80 : (gq_dy x x.length 0).2.length ≤ 80 := by omega
    -- the component
    obtain ⟨C2, c1, c2, c3, c4⟩ := gp_recut (M := C1) (t := b.1) (l := l') q1 (q2.fr (fun c e1 e2 => a2 c (by omega) (by omega) (by omega) (by omega))) a3 hcu (by rw [a2 0 (by omega) (by omega) (by omega) (by omega)]; exact q6.2.1)
    have c20 : C2.1 0 = Mc.1 0 := by rw [c3 0 (by omega), a2 0 (by omega) (by omega) (by omega) (by omega)]
    obtain ⟨s, hs⟩ : ∃ s : Int64, s = if bar = 0 then 0 else 1 := ⟨_, rfl⟩
    obtain ⟨C3, C4, w1, w2, w3, w4, w5⟩ := gp_tell2C C2 s (nI (gp_cut (gp_tab b.1) l').length).toInt64
    have e3sz : (C3.1 (gz_cIx (C3.1 0 5)) 0).toInt64 = (nI (gp_cut (gp_tab b.1) l').length).toInt64 := by rw [w2.2 5 (by omega), c20, q6.2.1, w2.1 cu (by omega), c4.1]
    have eC : g11_day Mc pf = some (nI d', gz_w C4 1 1 0, pf2) := by
      have e203 : g11_changeByText_203 (nI d') s (gz_w C2 0 15 0) pf2 (if d' = 0 then 0 else 1) = some (nI d', C4, pf2) := by
        unfold g11_changeByText_203
        rw [w1, gp_eB, e3sz, w3, gp_eB]
      have e184 : g11_changeByText_184 (nI d') bar C1 pf2 (if d' = 0 then 0 else 1) = some (nI d', C4, pf2) := by
        unfold g11_changeByText_184
        rw [c1, gp_eB, gp_eL]
        by_cases hb : bar = 0
        · rw [if_pos hb]
          rw [if_pos hb] at hs
          rw [← hs]
          exact e203
        · rw [if_neg hb]
          rw [if_neg hb] at hs
          rw [← hs]
          exact e203
      unfold g11_day
      rw [cf, gp_eB2, if_pos (show 0 ≤ gp_ans1 none from by decide), show decide (0 + 1 ≤ 1) = true from by decide, gp_eC]
      unfold g11_changeByText
      rw [show g11_changeByText_9 gz_FU 0 0 0 0 Mc pf 0 = _ from f1, e184, gp_eB3]
      unfold g11_day_24
      rw [gp_emptyC, gp_eB]
    -- the reference: the day is noted
    have rc1 : ∀ c, c ≠ 0 → c ≠ 1 → c ≠ 4 → c ≠ 34 → c ≠ 35 → R1.1 c = Mr.1 c := fun c e1 e2 e3 e4 e5 => by rw [r2 c e2, qc c e1 e3 e4 e5]
    have r10 : ∀ i, R1.1 0 i = M3.1 0 i := fun i => by rw [r2 0 (by omega), q0]
    have hu1 : gp_uR R1 us := h10.fr (rc1 33 (by omega) (by omega) (by omega) (by omega) (by omega)) (by rw [r10, m3_0 51 (by omega) (by omega) (by omega) (by omega) (by omega)])
    have nt : ∃ R2, f12_day_162 (nI (gq_dy x x.length 0).2.length) (nI d') R1 = f12_day_170 (nI (gq_dy x x.length 0).2.length) (nI d') R2 ∧ R2.2 = R1.2 ∧ (∀ c, c ≠ 0 → c ≠ 33 → R2.1 c = R1.1 c) ∧ (∀ i, i ≠ 51 → R2.1 0 i = R1.1 0 i) ∧ gp_uR R2 (if d' = 0 then us else gq_ps us b) := by
      unfold f12_day_162
      by_cases hd0 : d' = 0
      · rw [if_pos (show nI d' ≤ (0 : Int32) from by rw [hd0]; decide), if_pos hd0]
        exact ⟨R1, rfl, rfl, fun _ _ _ => rfl, fun _ _ => rfl, hu1⟩
      · obtain ⟨R2, n1, n2, n3, n4, n5⟩ := gp_noteR hu1 h8.2.1 h9 h2 (t4.fr (r2 34 (by omega)))
        rw [if_neg (show ¬ nI d' ≤ (0 : Int32) from nI_ge (a := 0) (by omega) (by omega)), if_neg hd0, n1, gp_eB]
        exact ⟨R2, rfl, n2, n3, n4, n5⟩
    obtain ⟨R2, n1, n2, n3, n4, n5⟩ := nt
    have hT2 : gp_tR R2 (gp_tab b.1) := q3.fr (fun c e1 e2 => by rw [n3 c (by omega) (by omega), rc1 c (by omega) (by omega) (by omega) (by omega) (by omega)]) (by rw [n4 10 (by omega), r10, m3_0 10 (by omega) (by omega) (by omega) (by omega) (by omega)]) |> fun h => h
    have hL2 : gp_lR R2 l' := r4.fr (n3 1 (by omega) (by omega))
    obtain ⟨R3, y1, y2, y3, y4, _⟩ := gp_cutAll0 (M := R2) q1 hT2 hL2
    obtain ⟨R4, R5, v1, v2, v3, v4, v5⟩ := gp_tell2R R3 s (nI (gp_cut (gp_tab b.1) l').length).toInt64
    have hNd : (nI (gq_dy x x.length 0).2.length ≤ nI d') ↔ bar = 0 := by
      rw [nI_leI (by omega) (by omega)]
      rcases f5 with ⟨z1, z2⟩ | ⟨z1, z2⟩
      · rw [z1]; exact ⟨fun _ => rfl, fun _ => by omega⟩
      · rw [z1]; exact ⟨fun g => by omega, fun g => absurd g (by decide)⟩
    have eR : f12_day Mr = some (nI d', R5) := by
      have e191 : f12_day_191 (nI d') s (gz_w R3 0 4 0) = some (nI d', R5) := by
        unfold f12_day_191
        rw [v1, gp_eB, v2.2 31 (by omega), y4.1, v3, gp_eB]
      rw [start, g4, show f12_day_58 gz_FU (nI (gq_dy x x.length 0).2.length) 0 M3 = _ from t1, show f12_day_84 gz_FU (nI (gq_dy x x.length 0).2.length) 0 Q = _ from f2, n1]
      unfold f12_day_170
      rw [y1, gp_eB, gp_eL]
      by_cases hb : bar = 0
      · rw [if_pos (hNd.mpr hb)]
        rw [if_pos hb] at hs
        rw [← hs]
        exact e191
      · rw [if_neg (fun g => hb (hNd.mp g))]
        rw [if_neg hb] at hs
        rw [← hs]
        exact e191
    have r5c : ∀ c, c ≠ 0 → ¬ (16 ≤ c ∧ c ≤ 20) → R5.1 c = R2.1 c := fun c e1 e2 => by rw [v4.1 c e1, y2.2.1 c e1 e2]
    have r50 : ∀ i, i ≠ 4 → i ≠ 26 → i ≠ 28 → i ≠ 29 → i ≠ 31 → i ≠ 32 → R5.1 0 i = R2.1 0 i := fun i i0 i1 i2 i3 i4 i5 => by rw [v4.2 i i0, y2.2.2 i i1 i2 i3 i4 i5]
    have c4m : ∀ c, c ≠ 0 → c ≠ 1 → (gz_w C4 1 1 0).1 c = C2.1 c := fun c e1 e2 => by rw [gp_wc _ e2, w4.1 c e1]
    have c4a : ∀ c, c ≠ 0 → c ≠ 1 → c ≠ 9 → c ≠ 10 → c ≠ 131 → c < 135 ∨ 175 ≤ c → c < cu ∨ cu + 9 ≤ c → (gz_w C4 1 1 0).1 c = Mc.1 c := fun c e1 e2 e3 e4 e5 e6 e7 => by rw [c4m c e1 e2, c3 c e7, a2 c e3 e4 e5 e6]
    refine ⟨nI d', gz_w C4 1 1 0, pf2, R5, eC, eR, cu, [], (b.1, l'), (if d' = 0 then us else gq_ps us b), ks, o', hR.nl hcu (by rw [gp_gn (by omega), w4.2 5 (by omega), c20]; exact q6.2.1) (by rw [gp_gn (by omega), w4.2 8 (by omega), c20]; exact q7) (fun c hc => c4a c (by omega) (by omega) (by omega) (by omega) (by omega) (by omega) (by omega)) (a3.fr (fun c e1 e2 => by rw [c4m c (by omega) (by omega), c3 c (by omega)])) (c4.fr (fun c e1 e2 => c4m c (by omega) (by omega))) (gp_xC0 _ (gp_gs _ _ _ _)) a4 a5 (a6.fr (fun c hc => by rw [c4m c (by omega) (by omega), c3 c (by omega)])) (fun c hc => by rw [r5c c (by omega) (by omega), n3 c (by omega) (by omega), rc1 c (by omega) (by omega) (by omega) (by omega) (by omega)]) (by rw [r50 10 (by omega) (by omega) (by omega) (by omega) (by omega) (by omega), n4 10 (by omega), r10, m3_0 10 (by omega) (by omega) (by omega) (by omega) (by omega)]) ?_ (gp_txR0 _ ?_) (n5.fr (r5c 33 (by omega) (by omega)) (r50 51 (by omega) (by omega) (by omega) (by omega) (by omega) (by omega))) ?_ ⟨_, _, by simp, by simp, w5.fr rfl (gp_gn (by omega)), v5, fun _ => rfl⟩⟩
    · have e1 : R5.1 1 = R1.1 1 := by rw [r5c 1 (by omega) (by omega), n3 1 (by omega) (by omega)]
      refine ⟨?_, fun i hi => ?_, ?_, fun i hi => ?_⟩
      · rw [e1, r3 0 (by omega), qc 1 (by omega) (by omega) (by omega) (by omega)]
        exact h6.1
      · have hi : i < b.1.length := hi
        have := h2.1.1
        rw [e1, r3 _ (by omega), qc 1 (by omega) (by omega) (by omega) (by omega)]
        exact h6.2.1 i hi
      · rw [e1, Nat.zero_add]
        exact r4.2.1
      · rw [e1, Nat.zero_add]
        exact (r4.2.2 i hi).1
    · rw [r50 2 (by omega) (by omega) (by omega) (by omega) (by omega) (by omega), n4 2 (by omega), r10, m3_02]
    · split
      · exact h9
      · exact gq_ps_ok h9 h2
end
