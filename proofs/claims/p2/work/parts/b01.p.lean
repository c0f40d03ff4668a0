/-! promises 36, 38, 39: undo, keep, again -/
section
variable {B : Prop} {pf pf' : Nat → Bool} {M M' Mc Mr Mc' Mr' C R : gz_M} {cu o o' : Nat} {x x' t l : List Nat} {b u : gp_Bk} {us us' : List gp_Bk} {ks ks' : Nat → Option gp_Bk}
/-- another book comes: both lay its rules, and cut -/
theorem gp_RI.nb (h : gp_RI B pf cu Mc Mr x b us ks o) (c2 : C.2 = Mc.2) (c1 : ∀ c, c < 7 ∨ 10 < c → c ≠ 131 → C.1 c = Mc.1 c) (r2 : R.2 = Mr.2) (r1 : ∀ c, c ≠ 0 → c ≠ 1 → R.1 c = Mr.1 c) (r0 : ∀ i, i ≠ 5 → i ≠ 51 → R.1 0 i = Mr.1 0 i) (hu : gp_okB u) (hc : gp_bK 7 C u) (hr : gp_rB 1 0 R u) (hH : gp_H pf C o us') (hU : gp_uR R us') (hok : ∀ u, u ∈ us' → gp_okB u) : ∃ C' R', f11_refresh C = some C' ∧ f12_layRules 1 R = some R' ∧ gp_RI B pf cu C' R' x u us' ks o ∧ C'.1 131 = C.1 131 ∧ R'.1 0 51 = R.1 0 51 := by
  obtain ⟨⟨q1, q2, q3, q4, q5, q6, q7, q8⟩, h2, h3, h4, h5, h6, h7, h8, h9, h10, h11⟩ := h
  have hcu := q6.1
  obtain ⟨C', f1, f2, f3, f4, f5⟩ := gp_refresh (l := u.2) hu.1 hc.1 hc.2 hcu (by rw [c1 0 (by omega) (by omega)]; exact q6.2.1)
  obtain ⟨R', l1, l2, l3⟩ := gp_lay (M := R) (k0 := 1) ⟨by omega, by omega⟩ hu.1 hu.2.1 hr.1 (fun i hi => by have := hr.2.1 i hi; rw [Nat.zero_add] at this; exact this)
  have f31 : C'.1 131 = C.1 131 := f3 131 (by omega) (by omega) (by omega) (by omega) (by omega)
  have l51 : R'.1 0 51 = R.1 0 51 := l2.2.2 51 (by omega)
  have fc : ∀ c, c = 0 ∨ c = 1 ∨ c = 2 ∨ 175 ≤ c → C'.1 c = Mc.1 c := fun c hc => by rw [f3 c (by omega) (by omega) (by omega) (by omega) (by omega), c1 c (by omega) (by omega)]
  have lc : ∀ c, c = 2 ∨ 14 < c → R'.1 c = Mr.1 c := fun c hc => by rw [l2.2.1 c (by omega) (by omega), r1 c (by omega) (by omega)]
  have l0 : ∀ i, i = 2 ∨ i = 4 → R'.1 0 i = Mr.1 0 i := fun i hi => by rw [l2.2.2 i (by omega), r0 i (by omega) (by omega)]
  have hw := gp_tab_w hu.2.1 hu.1
  have hr' : gp_rB 1 0 R' u := hr.fr (l2.2.1 1 (by omega) (by omega))
  refine ⟨C', R', f1, l1, ⟨⟨hw, f4, l3, ?_, hr'.lR hu, ⟨hcu, by rw [fc 0 (by omega)]; exact q6.2.1, f5, gp_cut_len⟩, by rw [fc 0 (by omega)]; exact q7, q8.fr (by rw [f2, c2]) (by rw [fc 0 (by omega)]) (by rw [l2.1, r2]) (l0 4 (by omega))⟩, hu, h3.fr (fc 1 (by omega)) (fc 2 (by omega)), h4.fr (lc 2 (by omega)) (l0 2 (by omega)), ?_, hr', h7, hH.fr (fun c hc => f3 c (by omega) (by omega) (by omega) (by omega) (by omega)), hok, hU.fr (l2.2.1 33 (by omega) (by omega)) l51, h11.fr (fun _ _ _ => rfl) (fun c hc => fc c (by omega)) (fun c hc => lc c (by omega))⟩, f31, l51⟩
  · exact hc.2.fr (fun c a1 a2 => f3 c (by omega) (by omega) (by omega) (by omega) (by omega))
  · obtain ⟨a1, a2, a3⟩ := hc.1
    exact ⟨a1, by rw [f3 7 (by omega) (by omega) (by omega) (by omega) (by omega)]; exact a2, fun i hi => by rw [f3 8 (by omega) (by omega) (by omega) (by omega) (by omega)]; exact a3 i hi⟩
/-- a book of the reference is laid into its state -/
theorem gp_toNow {β : Type} (f : Nat → Int32 → gz_M → Option β) (K : gz_M → Option β) {c' o' : Nat} (hc' : c' ≠ 1) (N : gz_M) (hu : gp_okB u) (hr : gp_rB c' o' N u) (hend : ∀ n M1, (∀ a, a ≠ 1 → M1.1 a = N.1 a) → f (n + 1) (nI 106) M1 = K M1) (hstep : ∀ n i M1, i < 106 → (∀ a, a ≠ 1 → M1.1 a = N.1 a) → f (n + 1) (nI i) M1 = f n (nI (i + 1)) (gz_w M1 1 i (M1.1 c' (o' + i)))) : ∃ M', f gz_FU (nI 0) N = K M' ∧ M'.2 = N.2 ∧ (∀ c, c ≠ 1 → M'.1 c = N.1 c) ∧ gp_rB 1 0 M' u := by
  have e := gp_fl_l (M := N) (c := 1) (o := 0) (N := 106) (v := fun i => N.1 c' (o' + i)) f K (fun n => hend n _ (fun a ha => gp_fl_c ha)) (fun n i hi => by rw [hstep n i _ hi (fun a ha => gp_fl_c ha), gp_fl_c hc', Nat.zero_add]) gz_FU (by unfold gz_FU; omega)
  exact ⟨_, e, rfl, fun c hc => gp_fl_c hc, hr.cp hu.1.1 hu.2.2.1 (fun i hi => by rw [gp_fl_i hi])⟩
theorem gp_snoc_ex {α : Type} {A : List α} (h : A ≠ []) : ∃ A' a, A = A' ++ [a] := ⟨A.dropLast, A.getLast h, (List.dropLast_concat_getLast h).symm⟩
theorem gp_a36 (h : gp_RI B pf cu Mc Mr x b us ks o) : ∃ v Mc' Mr', f11_undo pf Mc = some (v, Mc') ∧ f12_undo pf Mr = some (v, Mr') ∧ gp_R B pf Mc' Mr' := by
  have hR := h
  obtain ⟨⟨q1, q2, q3, q4, q5, q6, q7, q8⟩, h2, h3, h4, h5, h6, h7, h8, h9, h10, h11⟩ := h
  by_cases he : us = []
  · subst he
    refine ⟨-1, Mc, gz_w Mr 0 5 0, ?_, ?_, cu, x, b, [], ks, o, hR.ans gp_qC.refl (gp_thr 0).1 (q8.fr rfl rfl rfl (gp_gn (by omega)))⟩
    · unfold f11_undo f4_pop
      rw [h8.2.2.2.1, if_neg (by decide), gp_eB2, if_pos rfl]
    · unfold f12_undo
      rw [gp_eL, gp_gn (by omega), h10.1, if_pos (by decide)]
  · obtain ⟨us', u, rfl⟩ := gp_snoc_ex he
    have hl : (us' ++ [u]).length = us'.length + 1 := by simp
    have hu := h9 u (by simp)
    have hl10 : us'.length < 10 := by have := h8.2.1; omega
    obtain ⟨C, p1, p2, p3, p4, p5⟩ := gp_popF h7 h8
    obtain ⟨N, hN⟩ : ∃ N, N = gz_w (gz_w Mr 0 5 0) 0 51 (nI us'.length) := ⟨_, rfl⟩
    have Nc : ∀ c, c ≠ 0 → N.1 c = Mr.1 c := fun c hc => by rw [hN, gp_wc _ hc, gp_wc _ hc]
    have N51 : N.1 0 51 = nI us'.length := by rw [hN, gp_gs]
    have hru : gp_rB 33 (106 * us'.length) N u := by
      have := h10.2 us'.length (by omega)
      rw [gp_getD_r] at this
      exact this.fr (Nc 33 (by omega))
    obtain ⟨R, r1, r2, r3, r4⟩ := gp_toNow (f := fun n a M => f12_undo_26 pf n a M) (K := fun M1 => gz_bd (f12_layRules 1 M1) fun M2 => some (M2.1 0 51, M2)) (show (33 : Nat) ≠ 1 by omega) N hu hru (fun n M1 _ => by
      show f12_undo_26 pf (n + 1) _ _ = _
      rw [f12_undo_26, if_pos (show (106 : Int32) ≤ nI 106 by decide)]) (fun n i M1 hi hM => by
      show f12_undo_26 pf (n + 1) _ _ = f12_undo_26 pf n _ _
      rw [f12_undo_26, if_neg (show ¬ (106 : Int32) ≤ nI i from nI_ge (b := 106) hi (by omega)), hM 0 (by omega), N51, show (106 : Int32) = nI 106 from rfl, pk_mul, nI_add, gp_ckb (show 106 * us'.length + i < 1060 by omega) (by omega), gp_ckb (show i < 106 by omega) (by omega), nI_clamp (by omega), nI_clamp (by omega), gp_eL, gp_eL, nI_1])
    obtain ⟨C', R', f1, f2, f3, f4, f5⟩ := hR.nb (C := C) (R := R) p2 (fun c e1 e2 => p3 c e2 (by omega)) (by rw [r2, hN]; rfl) (fun c e1 e2 => by rw [r3 c e2, Nc c e1]) (fun i e1 e2 => by rw [r3 0 (by omega), hN, gp_gn (by omega), gp_gn (by omega)]) hu p5 r4 p4 (us' := us') ⟨by rw [r3 0 (by omega)]; exact N51, fun j hj => by
      have := h10.2 j (by omega)
      rw [gp_getD_l hj] at this
      exact this.fr (by rw [r3 33 (by omega), Nc 33 (by omega)])⟩ (fun u hu => h9 u (by simp [hu]))
    refine ⟨nI us'.length, C', R', ?_, ?_, cu, x, u, us', ks, o, f3⟩
    · unfold f11_undo
      rw [p1, gp_eB2, if_neg (by decide), f1, gp_eB, f4, p4.2.2.2.1]
    · unfold f12_undo
      rw [gp_eL, gp_gn (by omega), h10.1, hl, if_neg (show ¬ nI (us'.length + 1) = 0 from nI_ne0 (by omega) (by omega)), nI_pred, gp_eL, ← hN, show (0 : Int32) = nI 0 from rfl, show f12_undo_26 pf gz_FU (nI 0) N = _ from r1, f2, gp_eB, f5, r3 0 (by omega), N51]
theorem gp_in2 (a : Int32) (M : gz_M) : (a < 0 ∧ f12_in a 0 1 M = some (0, M)) ∨ (¬ a < 0 ∧ ¬ a < 2 ∧ f12_in a 0 1 M = some (0, M)) ∨ ∃ j, j < 2 ∧ a = nI j ∧ f12_in a 0 1 M = some (1, M) := by
  rcases pk_ix a (n := 2) (by decide) with h | h | ⟨j, h1, rfl⟩
  · exact Or.inl ⟨h, gp_in0 _ _ h⟩
  · have h0 := gp_neg_of (n := 2) (by omega) h
    refine Or.inr (Or.inl ⟨h0, gp_nlt_of h, ?_⟩)
    rw [show (1 : Int32) = nI 2 - 1 by decide]
    exact gp_in0b _ (by omega) h0 h
  · refine Or.inr (Or.inr ⟨j, h1, rfl, ?_⟩)
    rw [show (1 : Int32) = nI 2 - 1 by decide]
    rw [gp_in1 _ (by omega) h1]
    rfl
theorem gp_a39 (h : gp_RI B pf cu Mc Mr x b us ks o) (a : Int32) : ∃ v Mc' Mr', f11_again pf a Mc = some (v, Mc') ∧ f12_again a Mr = some (v, Mr') ∧ gp_R B pf Mc' Mr' := by
  have hR := h
  obtain ⟨⟨q1, q2, q3, q4, q5, q6, q7, q8⟩, h2, h3, h4, h5, h6, h7, h8, h9, h10, h11⟩ := h
  have no : ∀ v, f11_again pf a Mc = some (v, Mc) → f12_again a Mr = some (v, gz_w Mr 0 5 0) → ∃ v Mc' Mr', f11_again pf a Mc = some (v, Mc') ∧ f12_again a Mr = some (v, Mr') ∧ gp_R B pf Mc' Mr' := fun v e1 e2 => ⟨v, Mc, gz_w Mr 0 5 0, e1, e2, cu, x, b, us, ks, o, hR.ans gp_qC.refl (gp_thr 0).1 (q8.fr rfl rfl rfl (gp_gn (by omega)))⟩
  rcases gp_in2 a (gz_w Mr 0 5 0) with ⟨e1, e2⟩ | ⟨e0, e1, e2⟩ | ⟨j, hj, rfl, e2⟩
  · refine no 0 ?_ ?_
    · unfold f11_again; rw [if_pos e1]
    · unfold f12_again; rw [gp_eL, e2, gp_eB2, if_pos rfl]
  · refine no 0 ?_ ?_
    · unfold f11_again; rw [if_neg e0, if_neg e1]
    · unfold f12_again; rw [gp_eL, e2, gp_eB2, if_pos rfl]
  · have hk := h11 j hj
    have e0 : ¬ nI j < 0 := nI_pos (by omega)
    have e1 : nI j < (2 : Int32) := nI_lt (b := 2) hj (by omega)
    cases hks : ks j with
    | none =>
      rw [hks] at hk
      refine no 0 ?_ ?_
      · unfold f11_again
        rw [if_neg e0, if_pos e1, gp_ckb hj (by omega), nI_clamp (by omega), if_neg (by rw [h7 (10 + j) (by omega), hk.1]; decide)]
      · unfold f12_again
        rw [gp_eL, e2, gp_eB2, if_neg (by decide), gp_ckb hj (by omega), nI_clamp (by omega), gp_wc _ (by omega), hk.2, if_pos rfl]
    | some u =>
      rw [hks] at hk
      obtain ⟨k1, k2, k3, k4, k5⟩ := hk
      obtain ⟨C0, b1, b2, b3, b4⟩ := gp_bcp (k := 7) (k0 := 135 + 4 * (10 + j)) (by omega) Mc
      obtain ⟨C, hC⟩ : ∃ C, C = gz_w C0 131 2 0 := ⟨_, rfl⟩
      have Cc : ∀ c, c ≠ 131 → C.1 c = C0.1 c := fun c hc => by rw [hC, gp_wc _ hc]
      have C1 : C.1 131 1 = nI o := by rw [hC, gp_gn (by omega), b3 131 (by omega)]; exact h8.2.2.1
      have C2 : C.1 131 2 = nI 0 := by rw [hC, gp_gs]; rfl
      obtain ⟨R0, r1, r2, r3, r4⟩ := gp_toNow (f := fun n a M => f12_again_27 n (nI j) a M) (K := fun M1 => gz_lt (gz_w M1 0 51 0) fun M2 => gz_bd (f12_layRules 1 M2) fun M3 => some (1, M3)) (show (21 : Nat) ≠ 1 by omega) (gz_w Mr 0 5 0) k1 (k5.fr (gp_wc _ (by omega))) (fun n M1 _ => by
        show f12_again_27 (n + 1) _ _ _ = _
        rw [f12_again_27, if_pos (show (106 : Int32) ≤ nI 106 by decide)]) (fun n i M1 hi hM => by
        show f12_again_27 (n + 1) _ _ _ = f12_again_27 n _ _ _
        rw [f12_again_27, if_neg (show ¬ (106 : Int32) ≤ nI i from nI_ge (b := 106) hi (by omega)), show (106 : Int32) = nI 106 from rfl, pk_mul, nI_add, gp_ckb (show 106 * j + i < 212 by omega) (by omega), gp_ckb (show i < 106 by omega) (by omega), nI_clamp (by omega), nI_clamp (by omega), gp_eL, gp_eL, nI_1])
      obtain ⟨C', R', f1, f2, f3, f4, f5⟩ := hR.nb (C := C) (R := gz_w R0 0 51 0) (by rw [hC, gp_gl, b2]) (fun c e1 e2 => by rw [Cc c e2, b3 c (by omega)]) (by rw [gp_gl, r2]; rfl) (fun c e1 e2 => by rw [gp_wc _ e1, r3 c e2, gp_wc _ e1]) (fun i e1 e2 => by rw [gp_gn (by omega), r3 0 (by omega), gp_gn (by omega)]) k1 ((b4 u k3).fr (fun c _ _ => Cc c (by omega))) (r4.fr (gp_wc _ (by omega))) (us' := []) ⟨h8.1, by simp, C1, C2, fun j hj => absurd hj (by simp)⟩ ⟨gp_gs _ _ _ _, fun j hj => absurd hj (by simp)⟩ (fun u hu => absurd hu (by simp))
      refine ⟨1, C', R', ?_, ?_, cu, x, u, [], ks, o, f3⟩
      · unfold f11_again f4_forget
        rw [if_neg e0, if_pos e1, gp_ckb hj (by omega), nI_clamp (by omega), if_pos (by rw [h7 (10 + j) (by omega), k2]), k2, gp_eC, b1, gp_eB, gp_eL, gp_eB, ← hC, f1, gp_eB]
      · unfold f12_again
        rw [gp_eL, e2, gp_eB2, if_neg (by decide), gp_ckb hj (by omega), nI_clamp (by omega), gp_wc _ (by omega), k4, if_neg (by decide), show f12_again_27 gz_FU (nI j) 0 (gz_w Mr 0 5 0) = _ from r1, gp_eL, f2, gp_eB]
theorem gp_a38 (h : gp_RI B pf cu Mc Mr x b us ks o) (a : Int32) : gp_call B (g11_keep a Mc pf) (f12_keep a Mr) := by
  have hR := h
  obtain ⟨⟨q1, q2, q3, q4, q5, q6, q7, q8⟩, h2, h3, h4, h5, h6, h7, h8, h9, h10, h11⟩ := h
  have hcu := q6.1
  have no : ∀ v, g11_keep a Mc pf = some (v, Mc, pf) → f12_keep a Mr = some (v, gz_w Mr 0 5 0) → gp_call B (g11_keep a Mc pf) (f12_keep a Mr) := fun v e1 e2 => ⟨v, Mc, pf, gz_w Mr 0 5 0, e1, e2, cu, x, b, us, ks, o, hR.ans gp_qC.refl (gp_thr 0).1 (q8.fr rfl rfl rfl (gp_gn (by omega)))⟩
  rcases gp_in2 a (gz_w Mr 0 5 0) with ⟨e1, e2⟩ | ⟨e0, e1, e2⟩ | ⟨j, hj, rfl, e2⟩
  · refine no 0 ?_ ?_
    · unfold g11_keep; rw [if_pos e1]
    · unfold f12_keep; rw [gp_eL, e2, gp_eB2, if_pos rfl]
  · refine no 0 ?_ ?_
    · unfold g11_keep; rw [if_neg e0, if_neg e1]
    · unfold f12_keep; rw [gp_eL, e2, gp_eB2, if_pos rfl]
  · have e0 : ¬ nI j < 0 := nI_pos (by omega)
    have e1 : nI j < (2 : Int32) := nI_lt (b := 2) hj (by omega)
    have hbK : gp_bK 7 Mc b := ⟨h5, q4⟩
    -- the slot of the component
    have slot : ∃ C0 pf', C0.2 = Mc.2 ∧ (∀ c, c < 175 + 4 * j ∨ 175 + 4 * j + 3 < c → C0.1 c = Mc.1 c) ∧ gp_pf pf' ∧ pf' (10 + j) = true ∧ (∀ i, i < 12 → i ≠ 10 + j → pf' i = pf i) ∧ g11_keep (nI j) Mc pf = gz_bd (f0_copy (175 + 4 * j) 7 C0) fun M1 => some (1, M1, pf') := by
      have ea : 135 + 4 * (10 + j) = 175 + 4 * j := by omega
      by_cases hpf : pf (10 + j) = true
      · refine ⟨Mc, pf, rfl, fun _ _ => rfl, h7, hpf, fun _ _ _ => rfl, ?_⟩
        unfold g11_keep g11_keep_37
        rw [if_neg e0, if_pos e1, gp_ckb hj (by omega), nI_clamp (by omega), if_pos (by rw [h7 (10 + j) (by omega)]; exact hpf), hpf, gp_eC, ea]
      · have hpf' : pf (10 + j) = false := by simpa using hpf
        have p1 : gz_pfs (gz_pfs pf (10 + j)) (100 + (10 + j)) (10 + j) = true := by
          unfold gz_pfs
          rw [if_neg (by omega), if_pos rfl]
        have p3 : gz_pfs pf (10 + j) (10 + j) = true := by
          unfold gz_pfs
          rw [if_pos rfl]
        refine ⟨gz_nb Mc (10 + j), gz_pfs (gz_pfs pf (10 + j)) (100 + (10 + j)), rfl, fun c hc => ?_, fun i hi => ?_, p1, fun i hi hn => ?_, ?_⟩
        · unfold gz_nb
          dsimp only
          rw [if_neg (by omega)]
        · unfold gz_pfs
          by_cases hji : i = 10 + j
          · rw [hji, if_pos rfl, if_neg (by omega), if_pos rfl]
          · rw [if_neg (by omega), if_neg (by omega), if_neg (by omega), if_neg hji]
            exact h7 i hi
        · unfold gz_pfs
          rw [if_neg (by omega), if_neg hn]
        · unfold g11_keep g11_keep_37
          rw [if_neg e0, if_pos e1, gp_ckb hj (by omega), nI_clamp (by omega), if_neg (by rw [h7 (10 + j) (by omega)]; exact hpf), show decide (0 + 1 ≤ 1) = true from by decide, gp_eC, decide_eq_true (show 10 + j < 12 by omega), gp_eC, hpf', Bool.not_false, gp_eC, h7 (10 + j) (by omega), hpf', Bool.not_false, gp_eC, gp_eL, gp_ckb hj (by omega), p3, gp_eC, decide_eq_true rfl, gp_eC, ea]
    obtain ⟨C0, pf', s1, s2, s3, s4, s5, s6⟩ := slot
    have hb0 : gp_bK 7 C0 b := hbK.fr (fun c c1 c2 => s2 c (by omega))
    obtain ⟨C, b1, b2, b3, b4⟩ := gp_bcp (k := 175 + 4 * j) (k0 := 7) (by omega) C0
    have Cc : ∀ c, c < 175 + 4 * j ∨ 175 + 4 * j + 3 < c → C.1 c = Mc.1 c := fun c hc => by rw [b3 c (by omega), s2 c hc]
    -- the reference
    obtain ⟨N, hN⟩ : ∃ N, N = gz_w (gz_w Mr 0 5 0) 22 j 1 := ⟨_, rfl⟩
    have Nc : ∀ c, c ≠ 0 → c ≠ 22 → N.1 c = Mr.1 c := fun c e1 e2 => by rw [hN, gp_wc _ e2, gp_wc _ e1]
    have lp := gp_fl_l (M := N) (c := 21) (o := 106 * j) (N := 106) (v := fun i => N.1 1 i) (fun n a M => f12_keep_25 n (nI j) a M) (fun M1 => some (1, M1)) (fun n => by
      show f12_keep_25 (n + 1) _ _ _ = _
      rw [f12_keep_25, if_pos (show (106 : Int32) ≤ nI 106 by decide)]) (fun n i hi => by
      show f12_keep_25 (n + 1) _ _ _ = f12_keep_25 n _ _ _
      rw [f12_keep_25, if_neg (show ¬ (106 : Int32) ≤ nI i from nI_ge (b := 106) hi (by omega)), show (106 : Int32) = nI 106 from rfl, pk_mul, nI_add, gp_ckb (show i < 106 by omega) (by omega), gp_ckb (show 106 * j + i < 212 by omega) (by omega), nI_clamp (by omega), nI_clamp (by omega), gp_fl_c (show (1 : Nat) ≠ 21 by omega), gp_eL, gp_eL, nI_1]) gz_FU (by unfold gz_FU; omega)
    obtain ⟨R, hR'⟩ : ∃ R, R = gp_fl N 21 (106 * j) 106 (fun i => N.1 1 i) := ⟨_, rfl⟩
    rw [← hR'] at lp
    have Rc : ∀ c, c ≠ 0 → c ≠ 21 → c ≠ 22 → R.1 c = Mr.1 c := fun c e1 e2 e3 => by rw [hR', gp_fl_c e2, Nc c e1 e3]
    have R0 : ∀ i, i ≠ 5 → R.1 0 i = Mr.1 0 i := fun i hi => by rw [hR', gp_fl_c (by omega), hN, gp_gn (by omega), gp_gn (by omega)]
    have eC : g11_keep (nI j) Mc pf = some (1, C, pf') := by rw [s6, b1, gp_eB]
    have eR : f12_keep (nI j) Mr = some (1, R) := by
      unfold f12_keep
      rw [gp_eL, e2, gp_eB2, if_neg (by decide), gp_ckb hj (by omega), show vp_nar .boolean 1 = 1 from by decide, gp_eL, nI_clamp (by omega), ← hN, show (0 : Int32) = nI 0 from rfl]
      exact lp
    refine ⟨1, C, pf', R, eC, eR, cu, x, b, us, fun i => if i = j then some b else ks i, o, ⟨q1, q2.fr (fun c c1 c2 => Cc c (by omega)), q3.fr (fun c c1 c2 => Rc c (by omega) (by omega) (by omega)) (R0 10 (by omega)), q4.fr (fun c c1 c2 => Cc c (by omega)), q5.fr (Rc 1 (by omega) (by omega) (by omega)), ⟨hcu, by rw [Cc 0 (by omega)]; exact q6.2.1, q6.2.2.1.fr (fun c c1 c2 => Cc c (by omega)), q6.2.2.2⟩, by rw [Cc 0 (by omega)]; exact q7, q8.fr (by rw [b2, s1]) (by rw [Cc 0 (by omega)]) (by rw [hR', hN]; rfl) (R0 4 (by omega))⟩, h2, h3.fr (Cc 1 (by omega)) (Cc 2 (by omega)), h4.fr (Rc 2 (by omega) (by omega) (by omega)) (R0 2 (by omega)), ?_, h6.fr (Rc 1 (by omega) (by omega) (by omega)), s3, ?_, h9, h10.fr (Rc 33 (by omega) (by omega) (by omega)) (R0 51 (by omega)), fun i hi => ?_⟩
    · obtain ⟨a1, a2, a3⟩ := h5
      exact ⟨a1, by rw [Cc 7 (by omega)]; exact a2, fun i hi => by rw [Cc 8 (by omega)]; exact a3 i hi⟩
    · obtain ⟨a1, a2, a3, a4, a5⟩ := h8.fr (M' := C) (fun c hc => Cc c (by omega))
      refine ⟨a1, a2, a3, a4, fun i hi => ⟨?_, (a5 i hi).2⟩⟩
      have := Nat.mod_lt (o + i) (show 10 > 0 by omega)
      rw [s5 _ (by omega) (by omega)]
      exact (a5 i hi).1
    · dsimp only
      by_cases hij : i = j
      · rw [hij, if_pos rfl]
        refine ⟨h2, s4, ?_, ?_, ?_⟩
        · rw [show 135 + 4 * (10 + j) = 175 + 4 * j by omega]
          exact b4 b hb0
        · rw [hR', gp_fl_c (by omega), hN, gp_gs]
        · refine h6.cp h2.1.1 h2.2.2.1 (fun i hi => ?_)
          rw [hR', gp_fl_i hi, Nat.zero_add, Nc 1 (by omega) (by omega)]
      · rw [if_neg hij]
        have hk := h11 i hi
        cases hks : ks i with
        | none =>
          rw [hks] at hk
          refine ⟨by rw [s5 _ (by omega) (by omega)]; exact hk.1, ?_⟩
          rw [hR', gp_fl_c (by omega), hN, gp_gn (by omega), gp_wc _ (by omega)]
          exact hk.2
        | some u =>
          rw [hks] at hk
          obtain ⟨k1, k2, k3, k4, k5⟩ := hk
          refine ⟨k1, by rw [s5 _ (by omega) (by omega)]; exact k2, k3.fr (fun c c1 c2 => Cc c (by omega)), ?_, k5.cp k1.1.1 k1.2.2.1 (fun y hy => ?_)⟩
          · rw [hR', gp_fl_c (by omega), hN, gp_gn (by omega), gp_wc _ (by omega)]
            exact k4
          · rw [hR', gp_fl_n (by omega), Nc 21 (by omega) (by omega)]
end
