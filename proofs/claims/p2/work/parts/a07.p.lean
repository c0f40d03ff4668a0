/-! promise 4: rules -/
section
variable {B : Prop} {pf pf' : Nat → Bool} {M M' Mc Mr Mc' Mr' : gz_M} {cu o : Nat} {x t l : List Nat} {b : gp_Bk} {us : List gp_Bk} {ks : Nat → Option gp_Bk}
theorem gp_neg1 : ∀ q : Nat, q < 81 → ¬ ((-1 : Int32) - nI q = 0) ∧ ¬ 0 ≤ (-1 : Int32) - nI q := by decide +kernel
theorem gp_neg100 : ∀ q : Nat, q < 4 → ¬ ((-100 : Int32) - nI q = 0) ∧ ¬ 0 ≤ (-100 : Int32) - nI q := by decide +kernel
theorem gp_emptyC (M : gz_M) : f10_empty M = some (gz_w M 1 1 0) := rfl
theorem gp_over_lt {u : Nat → Nat} {m : Nat} (h : gp_over u = some m) : m < 4 := by
  unfold gp_over at h
  split at h
  · cases h; omega
  · split at h
    · cases h; omega
    · split at h
      · cases h; omega
      · split at h
        · cases h; omega
        · cases h
theorem gp_over_no {u : Nat → Nat} (h : gp_over u = none) : ∀ m, m < 4 → u m ≤ 10 := by
  unfold gp_over at h
  split at h
  · cases h
  · split at h
    · cases h
    · split at h
      · cases h
      · split at h
        · cases h
        · intro m hm
          obtain h | h | h | h : m = 0 ∨ m = 1 ∨ m = 2 ∨ m = 3 := by omega
          all_goals subst h; omega
theorem gp_crowdA (M : gz_M) : ∃ v, f12_crowded M = some (v, M) := by
  have st : ∀ (m n : Nat), m < 4 → (∃ v, f12_crowded_2 n (nI (m + 1)) M = some (v, M)) → ∃ v, f12_crowded_2 (n + 1) (nI m) M = some (v, M) := fun m n hm h => by
    rw [f12_crowded_2, if_neg (show ¬ (4 : Int32) ≤ nI m from nI_ge (b := 4) (by omega) (by omega)), gp_ckb hm (by omega)]
    split
    · rw [gp_eL, nI_1]
      exact h
    · exact ⟨_, rfl⟩
  have e4 : ∃ v, f12_crowded_2 (999995 + 1) (nI 4) M = some (v, M) := ⟨-1, by rw [f12_crowded_2, if_pos (by decide)]⟩
  unfold f12_crowded
  rw [show (0 : Int32) = nI 0 from rfl, show gz_FU = 999995 + 1 + 1 + 1 + 1 + 1 from rfl]
  exact st 0 _ (by omega) (st 1 _ (by omega) (st 2 _ (by omega) (st 3 _ (by omega) e4)))
theorem gp_xC0 (M : gz_M) (h : M.1 1 1 = 0) : gp_xC M [] := ⟨by simp, by rw [h]; rfl, fun i hi => absurd hi (by simp)⟩
theorem gp_txR0 (M : gz_M) (h : M.1 0 2 = 0) : gp_txR M [] := ⟨by simp, by rw [h]; rfl, fun i hi => absurd hi (by simp)⟩
/-- the text is emptied, nothing else is done -/
theorem gp_RI.emp (h : gp_RI B pf cu Mc Mr x b us ks o) (ec2 : Mc'.2 = Mc.2) (ec : ∀ c, c ≠ 1 → c ≠ 3 → Mc'.1 c = Mc.1 c) (ec1 : Mc'.1 1 1 = 0) (er2 : Mr'.2 = Mr.2) (er : ∀ c, c = 1 ∨ 14 < c → c ≠ 15 → c ≠ 35 → Mr'.1 c = Mr.1 c) (er4 : Mr'.1 0 4 = Mr.1 0 4) (er51 : Mr'.1 0 51 = Mr.1 0 51) (er0 : Mr'.1 0 2 = 0) (ht : gp_tR Mr' (gp_tab b.1)) : gp_RI B pf cu Mc' Mr' [] b us ks o := by
  obtain ⟨⟨q1, q2, q3, q4, q5, q6, q7, q8⟩, h2, h3, h4, h5, h6, h7, h8, h9, h10, h11⟩ := h
  have hcu := q6.1
  refine ⟨⟨q1, q2.fr (fun c c1 c2 => ec c (by omega) (by omega)), ht, q4.fr (fun c c1 c2 => ec c (by omega) (by omega)), q5.fr (er 1 (by omega) (by omega) (by omega)), ⟨q6.1, by rw [ec 0 (by omega) (by omega)]; exact q6.2.1, q6.2.2.1.fr (fun c c1 c2 => ec c (by omega) (by omega)), q6.2.2.2⟩, by rw [ec 0 (by omega) (by omega)]; exact q7, q8.fr ec2 (by rw [ec 0 (by omega) (by omega)]) er2 er4⟩, h2, gp_xC0 _ ec1, gp_txR0 _ er0, ?_, h6.fr (er 1 (by omega) (by omega) (by omega)), h7, h8.fr (fun c hc => ec c (by omega) (by omega)), h9, h10.fr (er 33 (by omega) (by omega) (by omega)) er51, h11.fr (fun _ _ _ => rfl) (fun c hc => ec c (by omega) (by omega)) (fun c hc => er c (by omega) (by omega) (by omega))⟩
  obtain ⟨a1, a2, a3⟩ := h5
  exact ⟨a1, by rw [ec 7 (by omega) (by omega)]; exact a2, fun i hi => by rw [ec 8 (by omega) (by omega)]; exact a3 i hi⟩
theorem gp_a4 (h : gp_RI B pf cu Mc Mr x b us ks o) : gp_call B (g11_rules Mc pf) (f12_rules Mr) := by
  have hR := h
  obtain ⟨⟨q1, q2, q3, q4, q5, q6, q7, q8⟩, h2, h3, h4, h5, h6, h7, h8, h9, h10, h11⟩ := h
  have h80 := h3.1
  have hcu := q6.1
  have hus := h8.2.1
  -- the component
  obtain ⟨C1, c1, c2⟩ := gp_fltC h3
  -- the reference, till the letters are asked
  obtain ⟨M2, b1, b2, b3⟩ := gp_begin (M := gz_w Mr 0 5 0) (h4.fr (gp_wc _ (by omega)) (gp_gn (by omega)))
  obtain ⟨v4, M5, r1, r2, r3⟩ := gp_rdRules b3
  have m5_2 : M5.2 = Mr.2 := by rw [r2.1, b2.1]; rfl
  have m5_c : ∀ c, c ≠ 0 → c < 4 ∨ 14 < c → M5.1 c = Mr.1 c := fun c h1 h2 => by rw [r2.2.1 c h1 (by omega), b2.2.1 c h1 (by omega), gp_wc _ h1]
  have m5_0 : ∀ i, i ≠ 2 → i ≠ 5 → i ≠ 7 → i ≠ 8 → i ≠ 9 → i ≠ 10 → i < 21 ∨ 24 < i → M5.1 0 i = Mr.1 0 i := fun i a1 a2 a3 a4 a5 a6 a7 => by rw [r2.2.2 i (by omega), b2.2.2.1 i a1 a3 a4 a5, gp_gn (by omega)]
  have m5_02 : M5.1 0 2 = 0 := by rw [r2.2.2 2 (by omega)]; exact b2.2.2.2
  have rb5 : gp_rB 1 0 M5 b := h6.fr (m5_c 1 (by omega) (by omega))
  -- refused: rules are laid again
  have lay5 : ∃ M6, f12_layRules 1 M5 = some M6 ∧ gp_lyL M5 M6 ∧ gp_tR M6 (gp_tab b.1) := gp_lay ⟨by omega, by omega⟩ h2.1 h2.2.1 rb5.1 (fun i hi => by have := rb5.2.1 i hi; rw [Nat.zero_add] at this; exact this)
  have ref : ∀ v, g11_rules Mc pf = some (v, gz_w C1 1 1 0, pf) → (∀ M6, f12_layRules 1 M5 = some M6 → f12_rules Mr = some (v, M6)) → gp_call B (g11_rules Mc pf) (f12_rules Mr) := fun v e1 e2 => by
    obtain ⟨M6, l1, l2, l3⟩ := lay5
    refine ⟨v, _, pf, M6, e1, e2 M6 l1, cu, [], b, us, ks, o, hR.emp (by rw [gp_gl, c2.1]) (fun c a1 a2 => by rw [gp_wc _ a1, c2.2 c a2]) (gp_gs _ _ _ _) (by rw [l2.1, m5_2]) (fun c a1 a2 a3 => by rw [l2.2.1 c (by omega) (by omega), m5_c c (by omega) (by omega)]) ?_ ?_ ?_ l3⟩
    · rw [l2.2.2 4 (by omega), m5_0 4 (by omega) (by omega) (by omega) (by omega) (by omega) (by omega) (by omega)]
    · rw [l2.2.2 51 (by omega), m5_0 51 (by omega) (by omega) (by omega) (by omega) (by omega) (by omega) (by omega)]
    · rw [l2.2.2 2 (by omega), m5_02]
  have start : f12_rules Mr = (gz_bd2 (f12_crowded M5) fun v8 M9 => gz_lt (M9.1 0 10) fun v11 => if v4 = 0 then (f12_rules_98 v4 (M5.1 0 9) v8 v11 M9) else (if v8 = (-1) then (gz_bd (f12_change M9) fun M14 => gz_ck (gz_inb 0 106) <| gz_lt (gz_w M14 1 (0 : Int32).toNatClampNeg (M14.1 0 7)) fun M17 => f12_rules_56 gz_FU v4 (M5.1 0 9) v8 v11 0 M17) else (f12_rules_98 v4 (M5.1 0 9) v8 v11 M9))) := by
    unfold f12_rules
    rw [gp_eL, b1, gp_eB, r1, gp_eB2, gp_eL]
  rcases r3 with ⟨r3, r4⟩ | ⟨r3, r4, r5, r6, s, r7, r8, r9, r10⟩
  · -- a sign that can't stand there
    obtain ⟨q, z1, z2, z3⟩ := gp_bad_flt r4
    obtain ⟨n1, n2⟩ := gp_neg1 q (by omega)
    obtain ⟨vc, cr⟩ := gp_crowdA M5
    refine ref ((-1) - nI q) ?_ (fun M6 l1 => ?_)
    · unfold g11_rules
      rw [c1, z2, gp_eB2]
      rw [if_neg (show ¬ gp_ans1 (some q) = 0 from n1)]
      unfold g11_rules_28
      rw [if_neg (show ¬ gp_ans1 (some q) = 0 from n1)]
      unfold g11_rules_58
      rw [gp_emptyC, gp_eB, if_neg (show ¬ 0 ≤ gp_ans1 (some q) from n2)]
      rfl
    · rw [start, cr, gp_eB2, gp_eL, if_pos r3]
      unfold f12_rules_98
      rw [l1, gp_eB, if_pos r3, z3]
  · have hflt : gp_flt x = none := gp_flt_no r7 r8
    have hlet := gp_folC (M := C1) (h3.fr (c2.2 1 (by omega)) (c2.2 2 (by omega))) r7
    have hcr : f12_crowded M5 = some (gp_o (gp_over (s.2.1.2.2 7)), M5) := gp_crowd (fun m hm => ⟨by rw [(r6.2.2 m hm).1, r9], r10 m⟩)
    have hv4 : ¬ v4 = 0 := by rw [r3]; decide
    cases hov : gp_over (s.2.1.2.2 7) with
    | some m =>
      -- too many letters
      have hm := gp_over_lt hov
      obtain ⟨n1, n2⟩ := gp_neg100 m hm
      rw [hov] at hlet hcr
      refine ref ((-100) - nI m) ?_ (fun M6 l1 => ?_)
      · unfold g11_rules
        rw [c1, hflt, gp_eB2, if_pos (show gp_ans1 none = 0 from rfl), hlet, gp_eB2]
        unfold g11_rules_28
        rw [if_neg (show ¬ gp_ans2 (some m) = 0 from n1)]
        unfold g11_rules_58
        rw [gp_emptyC, gp_eB, if_neg (show ¬ 0 ≤ gp_ans2 (some m) from n2)]
        rfl
      · have hm1 : ¬ gp_o (some m) = -1 := by rw [gp_oS, gp_m1, gp_ne1 (by omega)]; exact id
        rw [start, hcr, gp_eB2, gp_eL, if_neg hv4, if_neg hm1]
        unfold f12_rules_98
        rw [l1, gp_eB, if_neg hv4, if_neg hm1, gp_oS]
    | none =>
      rw [hov] at hlet hcr
      have hokx : gp_ok x := ⟨h80, s, r7, r8, gp_over_no hov⟩
      have hbx : ∀ i, i < x.length → x.getD i 0 < 256 := fun i hi => (h3.2.2 i hi).2
      have hokB : gp_okB (x, b.2) := ⟨hokx, hbx, h2.2.2.1, h2.2.2.2⟩
      have hwx := gp_tab_w hbx hokx
      -- the component
      have c1c : ∀ c, c ≠ 3 → C1.1 c = Mc.1 c := c2.2
      obtain ⟨C2, pf', o', p1, p2, p3, p4, p5, p6⟩ := gp_pushG (M := C1) (b := b) h7 (h8.fr (fun c hc => c1c c (by omega))) ⟨⟨h5.1, by rw [c1c 7 (by omega)]; exact h5.2.1, fun i hi => by rw [c1c 8 (by omega)]; exact h5.2.2 i hi⟩, q4.fr (fun c e1 e2 => c1c c (by omega))⟩
      have c2c : ∀ c, c ≠ 3 → c ≠ 131 → c < 135 ∨ 175 ≤ c → C2.1 c = Mc.1 c := fun c e1 e2 e3 => by rw [p3 c e2 e3, c1c c e1]
      obtain ⟨C3, hC3⟩ : ∃ C3, C3 = gz_w (gz_cp C2 2 8 0 0 80) 7 1 ((gz_cp C2 2 8 0 0 80).1 1 1) := ⟨_, rfl⟩
      have c3c : ∀ c, c ≠ 7 → c ≠ 8 → C3.1 c = C2.1 c := fun c e1 e2 => by rw [hC3, gp_wc _ e1, gp_cp_c e2]
      have hx3 : gp_xK 7 C3 x := by
        refine ⟨h80, ?_, fun i hi => ⟨?_, hbx i hi⟩⟩
        · rw [hC3, gp_gs, gp_cp_c (by omega), c2c 1 (by omega) (by omega) (by omega)]
          exact h3.2.1
        · rw [hC3, gp_gn (by omega), gp_cp_i (by omega), c2c 2 (by omega) (by omega) (by omega)]
          exact (h3.2.2 i hi).1
      have hl3 : gp_lC 9 C3 b.2 := q4.fr (fun c e1 e2 => by rw [c3c c (by omega) (by omega), c2c c (by omega) (by omega) (by omega)])
      obtain ⟨C4, f1, f2, f3, f4, f5⟩ := gp_refresh hokx hx3 hl3 hcu (by rw [c3c 0 (by omega) (by omega), c2c 0 (by omega) (by omega) (by omega)]; exact q6.2.1)
      have eC : g11_rules Mc pf = some (nI (gp_tab x).1, gz_w C4 1 1 0, pf') := by
        unfold g11_rules
        rw [c1, hflt, gp_eB2, if_pos (show gp_ans1 none = 0 from rfl), hlet, gp_eB2]
        unfold g11_rules_28
        rw [if_pos (show gp_ans2 none = 0 from rfl), show decide (0 + 1 ≤ 1) = true from by decide, gp_eC, p1, gp_eB2]
        unfold f0_takeRules
        rw [gp_eL, gp_eL, gp_eB, ← hC3, f1, gp_eB]
        unfold g11_rules_58
        rw [gp_emptyC, gp_eB, if_pos (show 0 ≤ gp_ans2 none from by decide), gp_wc _ (by omega), f4.1]
      -- the reference
      obtain ⟨M14, d1, d2, d3, d4, d5⟩ := gp_chgR (M := M5) (us := us) (b := b) (h10.fr (m5_c 33 (by omega) (by omega)) (m5_0 51 (by omega) (by omega) (by omega) (by omega) (by omega) (by omega) (by omega))) hus h9 h2 rb5
      have m7 : M14.1 0 7 = nI x.length := by rw [d4 7 (by omega)]; exact r4.2.2.1
      have m4 : ∀ i, i < x.length → M14.1 4 i = nI (x.getD i 0) := fun i hi => by rw [d3 4 (by omega) (by omega) (by omega)]; exact (r4.2.2.2.2.2 i hi).1
      obtain ⟨M17, hM17⟩ : ∃ M17, M17 = gz_w M14 1 0 (nI x.length) := ⟨_, rfl⟩
      have e56 : f12_rules_56 gz_FU v4 (M5.1 0 9) (gp_o none) (M5.1 0 10) (nI 0) M17 = f12_rules_98 v4 (M5.1 0 9) (gp_o none) (M5.1 0 10) (gp_fl M17 1 1 80 (fun i => if x.length ≤ i then 0 else nI (x.getD i 0))) := by
        refine gp_fl_l (M := M17) (c := 1) (o := 1) (N := 80) (v := fun i => if x.length ≤ i then 0 else nI (x.getD i 0)) (fun n a M => f12_rules_56 n v4 (M5.1 0 9) (gp_o none) (M5.1 0 10) a M) (fun M1 => f12_rules_98 v4 (M5.1 0 9) (gp_o none) (M5.1 0 10) M1) (fun n => ?_) (fun n i hi => ?_) gz_FU (by unfold gz_FU; omega)
        · show f12_rules_56 (n + 1) _ _ _ _ _ _ = _
          rw [f12_rules_56, if_pos (show (80 : Int32) ≤ nI 80 by decide)]
        · show f12_rules_56 (n + 1) _ _ _ _ _ _ = f12_rules_56 n _ _ _ _ _ _
          have e7 : (gp_fl M17 1 1 i (fun i => if x.length ≤ i then 0 else nI (x.getD i 0))).1 0 7 = nI x.length := by rw [gp_fl_c (by omega), hM17, gp_gn (by omega), m7]
          have e1 : (1 : Int32) + nI i = nI (1 + i) := by rw [show (1 : Int32) = nI 1 from rfl, nI_add]
          rw [f12_rules_56, if_neg (show ¬ (80 : Int32) ≤ nI i from nI_ge (b := 80) hi (by omega)), e7, e1]
          by_cases hxi : x.length ≤ i
          · rw [if_pos (nI_le hxi (by omega)), gp_ckb (show 1 + i < 106 by omega) (by omega), nI_clamp (by omega), gp_eL, gp_eL, nI_1]
            show f12_rules_56 n _ _ _ _ _ (gz_w _ _ _ _) = f12_rules_56 n _ _ _ _ _ (gz_w _ _ _ (if x.length ≤ i then 0 else nI (x.getD i 0)))
            rw [if_pos hxi]
          · rw [if_neg (nI_ge (by omega) (by omega)), gp_ckb (show i < 80 by omega) (by omega), gp_ckb (show 1 + i < 106 by omega) (by omega), nI_clamp (by omega), nI_clamp (by omega), gp_fl_c (by omega), hM17, gp_wc _ (by omega), m4 i (by omega), gp_eL, gp_eL, nI_1]
            show f12_rules_56 n _ _ _ _ _ (gz_w _ _ _ _) = f12_rules_56 n _ _ _ _ _ (gz_w _ _ _ (if x.length ≤ i then 0 else nI (x.getD i 0)))
            rw [if_neg hxi]
      obtain ⟨M18, hM18⟩ : ∃ M18, M18 = gp_fl M17 1 1 80 (fun i => if x.length ≤ i then 0 else nI (x.getD i 0)) := ⟨_, rfl⟩
      rw [← hM18] at e56
      have m18c : ∀ c, c ≠ 1 → M18.1 c = M14.1 c := fun c hc => by rw [hM18, gp_fl_c hc, hM17, gp_wc _ hc]
      have m18h : ∀ i, 81 ≤ i → M18.1 1 i = Mr.1 1 i := fun i hi => by rw [hM18, gp_fl_n (by omega), hM17, gp_gn (by omega), d3 1 (by omega) (by omega) (by omega), m5_c 1 (by omega) (by omega)]
      have rb18 : gp_rB 1 0 M18 (x, b.2) := by
        refine ⟨?_, fun i hi => ?_, ?_, fun i hi => ?_⟩
        · rw [hM18, gp_fl_n (by omega), hM17, gp_gs]
        · have hi : i < x.length := hi
          rw [Nat.zero_add, hM18, gp_fl_i (by omega)]
          show (if x.length ≤ i then 0 else nI (x.getD i 0)) = nI (x.getD i 0)
          rw [if_neg (by omega)]
        · rw [m18h _ (by omega)]; exact h6.2.2.1
        · rw [m18h _ (by omega)]; exact h6.2.2.2 i hi
      obtain ⟨M19, l1, l2, l3⟩ := gp_lay (M := M18) (k0 := 1) ⟨by omega, by omega⟩ hokx hbx rb18.1 (fun i hi => by have := rb18.2.1 i hi; rw [Nat.zero_add] at this; exact this)
      have eR : f12_rules Mr = some (nI (gp_tab x).1, M19) := by
        rw [start, hcr, gp_eB2, gp_eL, if_neg hv4, if_pos (show gp_o none = -1 from rfl), d1, gp_eB, show gz_inb 0 106 = true from gp_inb (i := 0) (by omega) (by omega), gp_eC, show (0 : Int32).toNatClampNeg = 0 from rfl, m7, gp_eL, ← hM17, show (0 : Int32) = nI 0 from rfl, e56]
        unfold f12_rules_98
        rw [l1, gp_eB, if_neg hv4, if_pos (show gp_o none = -1 from rfl), r5]
      have c4c : ∀ c, c ≠ 1 → (gz_w C4 1 1 0).1 c = C4.1 c := fun c hc => gp_wc _ hc
      have c4o : ∀ c, c ≠ 1 → c ≠ 3 → c ≠ 4 → c ≠ 5 → c ≠ 6 → c ≠ 7 → c ≠ 8 → c < 11 ∨ 29 < c → c < cu ∨ cu + 9 ≤ c → (gz_w C4 1 1 0).1 c = C2.1 c := fun c a1 a2 a3 a4 a5 a6 a7 a8 a9 => by rw [c4c c a1, f3 c a3 a4 a5 a8 a9, c3c c a6 a7]
      have m19c : ∀ c, c ≠ 0 → c < 4 ∨ 14 < c → M19.1 c = M18.1 c := fun c a1 a2 => l2.2.1 c a1 a2
      refine ⟨_, _, pf', M19, eC, eR, cu, [], (x, b.2), _, ks, o', ⟨hwx, f4.fr (fun c a1 a2 => c4c c (by omega)), l3, ?_, ?_, ⟨hcu, ?_, f5.fr (fun c a1 a2 => c4c c (by omega)), gp_cut_len⟩, ?_, ?_⟩, hokB, gp_xC0 _ (gp_gs _ _ _ _), gp_txR0 _ ?_, ?_, rb18.fr (m19c 1 (by omega) (by omega)), p4, p6.fr (fun c hc => c4o c (by omega) (by omega) (by omega) (by omega) (by omega) (by omega) (by omega) (by omega) (by omega)), ?_, d5.fr ?_ ?_, ?_⟩
      · exact hl3.fr (fun c a1 a2 => by rw [c4c c (by omega), f3 c (by omega) (by omega) (by omega) (by omega) (by omega)])
      · exact (rb18.fr (m19c 1 (by omega) (by omega))).lR hokB
      · rw [c4c 0 (by omega), f3 0 (by omega) (by omega) (by omega) (by omega) (by omega), c3c 0 (by omega) (by omega), c2c 0 (by omega) (by omega) (by omega)]
        exact q6.2.1
      · rw [c4c 0 (by omega), f3 0 (by omega) (by omega) (by omega) (by omega) (by omega), c3c 0 (by omega) (by omega), c2c 0 (by omega) (by omega) (by omega)]
        exact q7
      · refine q8.fr ?_ ?_ ?_ ?_
        · rw [gp_gl, f2, hC3, gp_gl]
          show C2.2 = _
          rw [p2, c2.1]
        · rw [c4c 0 (by omega), f3 0 (by omega) (by omega) (by omega) (by omega) (by omega), c3c 0 (by omega) (by omega), c2c 0 (by omega) (by omega) (by omega)]
        · rw [l2.1, hM18, gp_fl_2, hM17, gp_gl, d2, m5_2]
        · rw [l2.2.2 4 (by omega), m18c 0 (by omega), d4 4 (by omega), m5_0 4 (by omega) (by omega) (by omega) (by omega) (by omega) (by omega) (by omega)]
      · rw [l2.2.2 2 (by omega), m18c 0 (by omega), d4 2 (by omega), m5_02]
      · refine ⟨hx3.1, ?_, fun i hi => ⟨?_, hbx i hi⟩⟩
        · rw [c4c 7 (by omega), f3 7 (by omega) (by omega) (by omega) (by omega) (by omega)]
          exact hx3.2.1
        · rw [c4c 8 (by omega), f3 8 (by omega) (by omega) (by omega) (by omega) (by omega)]
          exact (hx3.2.2 i hi).1
      · intro u hu
        rcases List.mem_append.mp hu with hu | hu
        · split at hu
          · exact h9 u (List.mem_of_mem_drop hu)
          · exact h9 u hu
        · rw [List.mem_singleton.mp hu]
          exact h2
      · rw [m19c 33 (by omega) (by omega), m18c 33 (by omega)]
      · rw [l2.2.2 51 (by omega), m18c 0 (by omega)]
      · exact h11.fr p5 (fun c hc => by rw [c4o c (by omega) (by omega) (by omega) (by omega) (by omega) (by omega) (by omega) (by omega) (by omega), c2c c (by omega) (by omega) (by omega)]) (fun c hc => by rw [m19c c (by omega) (by omega), m18c c (by omega), d3 c (by omega) (by omega) (by omega), m5_c c (by omega) (by omega)])
end
