section
/-! promises 36, 38, 39: undo, keep, again -/
section
variable {B : Prop} {pf pf' : Nat → Bool} {M M' Mc Mr Mc' Mr' C R : gz_M} {cu o o' : Nat} {x x' t l : List Nat} {b u : gp_Bk} {us us' : List gp_Bk} {ks ks' : Nat → Option gp_Bk}
/-- another book comes: both lay its rules, and cut -/
theorem gp_RI.nb (h : gp_RI B pf cu Mc Mr x b us ks o) (c2 : C.2 = Mc.2) (c1 : ∀ c, c < 7 ∨ 10 < c → c ≠ 131 → C.1 c = Mc.1 c) (r2 : R.2 = Mr.2) (r1 : ∀ c, c ≠ 0 → c ≠ 1 → R.1 c = Mr.1 c) (r0 : ∀ i, i ≠ 5 → i ≠ 51 → R.1 0 i = Mr.1 0 i) (hu : gp_okB u) (hc : gp_bK 7 C u) (hr : gp_rB 1 0 R u) (hH : gp_H pf C o us') (hU : gp_uR R us') (hok : ∀ u, u ∈ us' → gp_okB u) : ∃ C' R', f11_refresh C = some C' ∧ f12_layRules 1 R = some R' ∧ gp_RI B pf cu C' R' x u us' ks o ∧ C'.1 131 = C.1 131 ∧ R'.1 0 51 = R.1 0 51 := by
  obtain ⟨⟨q1, q2, q3, q4, q5, q6, q7, q8⟩, h2, h3, h4, h5, h6, h7, h8, h9, h10, h11⟩ := h
  have hcu := q6.1
  obtain ⟨C', f1, f2, f3, f4, f5⟩ := gp_refresh (l := u.2) hu.1 hc.1 hc.2 hcu (by rw [c1 0 (by omega) (by omega)]; exact q6.2.1)
  obtain ⟨R', l1, l2, l3⟩ := gp_lay (M := R) (k0 := 1) ⟨by omega, by omega⟩ hu.1 hu.2.1 hr.1 (fun i hi => by have := hr.2.1 i hi; rw [Nat.zero_add] at this; exact this)
  have f31 : C'.1 131 = C.1 131 := f3 131 (by omega) (by omega) (by omega) (by omega) (by omega)
  have l51 : R'.1 0 51 = R.1 0 51 := l2.2.2 51 (by omega)
  have fc : ∀ c, c = 0 ∨ c = 1 ∨ c = 2 ∨ 175 ≤ c → C'.1 c = Mc.1 c := fun c hc => by rw [f3 c (by omega) (by omega) (by omega) (by omega) (by omega), c1 c (by omega) (by omega)]
  have lc : ∀ c, c = 2 ∨ 14 < c → R'.1 c = Mr.1 c := fun c hc => by rw [l2.2.1 c (by omega) (by omega), r1 c (by omega) (by omega)]
  have l0 : ∀ i, i = 2 ∨ i = 4 → R'.1 0 i = Mr.1 0 i := fun i hi => by rw [l2.2.2 i (by omega), r0 i (by omega) (by omega)]
  have hw := gp_tab_w hu.2.1 hu.1
  have hr' : gp_rB 1 0 R' u := hr.fr (l2.2.1 1 (by omega) (by omega))
  refine ⟨C', R', f1, l1, ⟨⟨hw, f4, l3, ?_, hr'.lR hu, ⟨hcu, by rw [fc 0 (by omega)]; exact q6.2.1, f5, gp_cut_len⟩, by rw [fc 0 (by omega)]; exact q7, q8.fr (by rw [f2, c2]) (by rw [fc 0 (by omega)]) (by rw [l2.1, r2]) (l0 4 (by omega))⟩, hu, h3.fr (fc 1 (by omega)) (fc 2 (by omega)), h4.fr (lc 2 (by omega)) (l0 2 (by omega)), ?_, hr', h7, hH.fr (fun c hc => f3 c (by omega) (by omega) (by omega) (by omega) (by omega)), hok, hU.fr (l2.2.1 33 (by omega) (by omega)) l51, h11.fr (fun _ _ _ => rfl) (fun c hc => fc c (by omega)) (fun c hc => lc c (by omega))⟩, f31, l51⟩
  · exact hc.2.fr (fun c a1 a2 => f3 c (by omega) (by omega) (by omega) (by omega) (by omega))
  · obtain ⟨a1, a2, a3⟩ := hc.1
    exact ⟨a1, by rw [f3 7 (by omega) (by omega) (by omega) (by omega) (by omega)]; exact a2, fun i hi => by rw [f3 8 (by omega) (by omega) (by omega) (by omega) (by omega)]; exact a3 i hi⟩
/-- a book of the reference is laid into its state -/
theorem gp_toNow {β : Type} (f : Nat → Int32 → gz_M → Option β) (K : gz_M → Option β) {c' o' : Nat} (hc' : c' ≠ 1) (N : gz_M) (hu : gp_okB u) (hr : gp_rB c' o' N u) (hend : ∀ n M1, (∀ a, a ≠ 1 → M1.1 a = N.1 a) → f (n + 1) (nI 106) M1 = K M1) (hstep : ∀ n i M1, i < 106 → (∀ a, a ≠ 1 → M1.1 a = N.1 a) → f (n + 1) (nI i) M1 = f n (nI (i + 1)) (gz_w M1 1 i (M1.1 c' (o' + i)))) : ∃ M', f gz_FU (nI 0) N = K M' ∧ M'.2 = N.2 ∧ (∀ c, c ≠ 1 → M'.1 c = N.1 c) ∧ gp_rB 1 0 M' u := by
  have e := gp_fl_l (M := N) (c := 1) (o := 0) (N := 106) (v := fun i => N.1 c' (o' + i)) f K (fun n => hend n _ (fun a ha => gp_fl_c ha)) (fun n i hi => by rw [hstep n i _ hi (fun a ha => gp_fl_c ha), gp_fl_c hc', Nat.zero_add]) gz_FU (by unfold gz_FU; omega)
  exact ⟨_, e, rfl, fun c hc => gp_fl_c hc, hr.cp hu.1.1 hu.2.2.1 (fun i hi => by rw [gp_fl_i hi])⟩
theorem gp_snoc_ex {α : Type} {A : List α} (h : A ≠ []) : ∃ A' a, A = A' ++ [a] := ⟨A.dropLast, A.getLast h, (List.dropLast_concat_getLast h).symm⟩
theorem gp_a36 (h : gp_RI B pf cu Mc Mr x b us ks o) : ∃ v Mc' Mr', f11_undo pf Mc = some (v, Mc') ∧ f12_undo pf Mr = some (v, Mr') ∧ gp_R B pf Mc' Mr' := by
  have hR := h
  obtain ⟨⟨q1, q2, q3, q4, q5, q6, q7, q8⟩, h2, h3, h4, h5, h6, h7, h8, h9, h10, h11⟩ := h
  by_cases he : us = []
  · subst he
    refine ⟨-1, Mc, gz_w Mr 0 5 0, ?_, ?_, cu, x, b, [], ks, o, hR.ans gp_qC.refl (gp_thr 0).1 (q8.fr rfl rfl rfl (gp_gn (by omega)))⟩
    · unfold f11_undo f4_pop
      rw [h8.2.2.2.1, if_neg (by decide), gp_eB2, if_pos rfl]
    · unfold f12_undo
      rw [gp_eL, gp_gn (by omega), h10.1, if_pos (by decide)]
  · obtain ⟨us', u, rfl⟩ := gp_snoc_ex he
    have hl : (us' ++ [u]).length = us'.length + 1 := by simp
    have hu := h9 u (by simp)
    have hl10 : us'.length < 10 := by have := h8.2.1; omega
    obtain ⟨C, p1, p2, p3, p4, p5⟩ := gp_popF h7 h8
    obtain ⟨N, hN⟩ : ∃ N, N = gz_w (gz_w Mr 0 5 0) 0 51 (nI us'.length) := ⟨_, rfl⟩
    have Nc : ∀ c, c ≠ 0 → N.1 c = Mr.1 c := fun c hc => by rw [hN, gp_wc _ hc, gp_wc _ hc]
    have N51 : N.1 0 51 = nI us'.length := by rw [hN, gp_gs]
    have hru : gp_rB 33 (106 * us'.length) N u := by
      have := h10.2 us'.length (by omega)
      rw [gp_getD_r] at this
      exact this.fr (Nc 33 (by omega))
    obtain ⟨R, r1, r2, r3, r4⟩ := gp_toNow (f := fun n a M => f12_undo_26 pf n a M) (K := fun M1 => gz_bd (f12_layRules 1 M1) fun M2 => some (M2.1 0 51, M2)) (show (33 : Nat) ≠ 1 by omega) N hu hru (fun n M1 _ => by
      show f12_undo_26 pf (n + 1) _ _ = _
      rw [f12_undo_26, if_pos (show (106 : Int32) ≤ nI 106 by decide)]) (fun n i M1 hi hM => by
      show f12_undo_26 pf (n + 1) _ _ = f12_undo_26 pf n _ _
      rw [f12_undo_26, if_neg (show ¬ (106 : Int32) ≤ nI i from nI_ge (b := 106) hi (by omega)), hM 0 (by omega), N51, show (106 : Int32) = nI 106 from rfl, pk_mul, nI_add, gp_ckb (show 106 * us'.length + i < 1060 by omega) (by omega), gp_ckb (show i < 106 by omega) (by omega), nI_clamp (by omega), nI_clamp (by omega), gp_eL, gp_eL, nI_1])
    obtain ⟨C', R', f1, f2, f3, f4, f5⟩ := hR.nb (C := C) (R := R) p2 (fun c e1 e2 => p3 c e2 (by omega)) (by rw [r2, hN]; rfl) (fun c e1 e2 => by rw [r3 c e2, Nc c e1]) (fun i e1 e2 => by rw [r3 0 (by omega), hN, gp_gn (by omega), gp_gn (by omega)]) hu p5 r4 p4 (us' := us') ⟨by rw [r3 0 (by omega)]; exact N51, fun j hj => by
      have := h10.2 j (by omega)
      rw [gp_getD_l hj] at this
      exact this.fr (by rw [r3 33 (by omega), Nc 33 (by omega)])⟩ (fun u hu => h9 u (by simp [hu]))
    refine ⟨nI us'.length, C', R', ?_, ?_, cu, x, u, us', ks, o, f3⟩
    · unfold f11_undo
      rw [p1, gp_eB2, if_neg (by decide), f1, gp_eB, f4, p4.2.2.2.1]
    · unfold f12_undo
      rw [gp_eL, gp_gn (by omega), h10.1, hl, if_neg (show ¬ nI (us'.length + 1) = 0 from nI_ne0 (by omega) (by omega)), nI_pred, gp_eL, ← hN, show (0 : Int32) = nI 0 from rfl, show f12_undo_26 pf gz_FU (nI 0) N = _ from r1, f2, gp_eB, f5, r3 0 (by omega), N51]
theorem gp_in2 (a : Int32) (M : gz_M) : (a < 0 ∧ f12_in a 0 1 M = some (0, M)) ∨ (¬ a < 0 ∧ ¬ a < 2 ∧ f12_in a 0 1 M = some (0, M)) ∨ ∃ j, j < 2 ∧ a = nI j ∧ f12_in a 0 1 M = some (1, M) := by
  rcases pk_ix a (n := 2) (by decide) with h | h | ⟨j, h1, rfl⟩
  · exact Or.inl ⟨h, gp_in0 _ _ h⟩
  · have h0 := gp_neg_of (n := 2) (by omega) h
    refine Or.inr (Or.inl ⟨h0, gp_nlt_of h, ?_⟩)
    rw [show (1 : Int32) = nI 2 - 1 by decide]
    exact gp_in0b _ (by omega) h0 h
  · refine Or.inr (Or.inr ⟨j, h1, rfl, ?_⟩)
    rw [show (1 : Int32) = nI 2 - 1 by decide]
    rw [gp_in1 _ (by omega) h1]
    rfl
theorem gp_a39 (h : gp_RI B pf cu Mc Mr x b us ks o) (a : Int32) : ∃ v Mc' Mr', f11_again pf a Mc = some (v, Mc') ∧ f12_again a Mr = some (v, Mr') ∧ gp_R B pf Mc' Mr' := by
  have hR := h
  obtain ⟨⟨q1, q2, q3, q4, q5, q6, q7, q8⟩, h2, h3, h4, h5, h6, h7, h8, h9, h10, h11⟩ := h
  have no : ∀ v, f11_again pf a Mc = some (v, Mc) → f12_again a Mr = some (v, gz_w Mr 0 5 0) → ∃ v Mc' Mr', f11_again pf a Mc = some (v, Mc') ∧ f12_again a Mr = some (v, Mr') ∧ gp_R B pf Mc' Mr' := fun v e1 e2 => ⟨v, Mc, gz_w Mr 0 5 0, e1, e2, cu, x, b, us, ks, o, hR.ans gp_qC.refl (gp_thr 0).1 (q8.fr rfl rfl rfl (gp_gn (by omega)))⟩
  rcases gp_in2 a (gz_w Mr 0 5 0) with ⟨e1, e2⟩ | ⟨e0, e1, e2⟩ | ⟨j, hj, rfl, e2⟩
  · refine no 0 ?_ ?_
    · unfold f11_again; rw [if_pos e1]
    · unfold f12_again; rw [gp_eL, e2, gp_eB2, if_pos rfl]
  · refine no 0 ?_ ?_
    · unfold f11_again; rw [if_neg e0, if_neg e1]
    · unfold f12_again; rw [gp_eL, e2, gp_eB2, if_pos rfl]
  · have hk := h11 j hj
    have e0 : ¬ nI j < 0 := nI_pos (by omega)
    have e1 : nI j < (2 : Int32) := nI_lt (b := 2) hj (by omega)
    cases hks : ks j with
    | none =>
      rw [hks] at hk
      refine no 0 ?_ ?_
      · unfold f11_again
        rw [if_neg e0, if_pos e1, gp_ckb hj (by omega), nI_clamp (by omega), if_neg (by rw [h7 (10 + j) (by omega), hk.1]; decide)]
      · unfold f12_again
        rw [gp_eL, e2, gp_eB2, if_neg (by decide), gp_ckb hj (by omega), nI_clamp (by omega), gp_wc _ (by omega), hk.2, if_pos rfl]
    | some u =>
      rw [hks] at hk
      obtain ⟨k1, k2, k3, k4, k5⟩ := hk
      obtain ⟨C0, b1, b2, b3, b4⟩ := gp_bcp (k := 7) (k0 := 135 + 4 * (10 + j)) (by omega) Mc
      obtain ⟨C, hC⟩ : ∃ C, C = gz_w C0 131 2 0 := ⟨_, rfl⟩
      have Cc : ∀ c, c ≠ 131 → C.1 c = C0.1 c := fun c hc => by rw [hC, gp_wc _ hc]
      have C1 : C.1 131 1 = nI o := by rw [hC, gp_gn (by omega), b3 131 (by omega)]; exact h8.2.2.1
      have C2 : C.1 131 2 = nI 0 := by rw [hC, gp_gs]; rfl
      obtain ⟨R0, r1, r2, r3, r4⟩ := gp_toNow (f := fun n a M => f12_again_27 n (nI j) a M) (K := fun M1 => gz_lt (gz_w M1 0 51 0) fun M2 => gz_bd (f12_layRules 1 M2) fun M3 => some (1, M3)) (show (21 : Nat) ≠ 1 by omega) (gz_w Mr 0 5 0) k1 (k5.fr (gp_wc _ (by omega))) (fun n M1 _ => by
        show f12_again_27 (n + 1) _ _ _ = _
        rw [f12_again_27, if_pos (show (106 : Int32) ≤ nI 106 by decide)]) (fun n i M1 hi hM => by
        show f12_again_27 (n + 1) _ _ _ = f12_again_27 n _ _ _
        rw [f12_again_27, if_neg (show ¬ (106 : Int32) ≤ nI i from nI_ge (b := 106) hi (by omega)), show (106 : Int32) = nI 106 from rfl, pk_mul, nI_add, gp_ckb (show 106 * j + i < 212 by omega) (by omega), gp_ckb (show i < 106 by omega) (by omega), nI_clamp (by omega), nI_clamp (by omega), gp_eL, gp_eL, nI_1])
      obtain ⟨C', R', f1, f2, f3, f4, f5⟩ := hR.nb (C := C) (R := gz_w R0 0 51 0) (by rw [hC, gp_gl, b2]) (fun c e1 e2 => by rw [Cc c e2, b3 c (by omega)]) (by rw [gp_gl, r2]; rfl) (fun c e1 e2 => by rw [gp_wc _ e1, r3 c e2, gp_wc _ e1]) (fun i e1 e2 => by rw [gp_gn (by omega), r3 0 (by omega), gp_gn (by omega)]) k1 ((b4 u k3).fr (fun c _ _ => Cc c (by omega))) (r4.fr (gp_wc _ (by omega))) (us' := []) ⟨h8.1, by simp, C1, C2, fun j hj => absurd hj (by simp)⟩ ⟨gp_gs _ _ _ _, fun j hj => absurd hj (by simp)⟩ (fun u hu => absurd hu (by simp))
      refine ⟨1, C', R', ?_, ?_, cu, x, u, [], ks, o, f3⟩
      · unfold f11_again f4_forget
        rw [if_neg e0, if_pos e1, gp_ckb hj (by omega), nI_clamp (by omega), if_pos (by rw [h7 (10 + j) (by omega), k2]), k2, gp_eC, b1, gp_eB, gp_eL, gp_eB, ← hC, f1, gp_eB]
      · unfold f12_again
        rw [gp_eL, e2, gp_eB2, if_neg (by decide), gp_ckb hj (by omega), nI_clamp (by omega), gp_wc _ (by omega), k4, if_neg (by decide), show f12_again_27 gz_FU (nI j) 0 (gz_w Mr 0 5 0) = _ from r1, gp_eL, f2, gp_eB]
theorem gp_a38 (h : gp_RI B pf cu Mc Mr x b us ks o) (a : Int32) : gp_call B (g11_keep a Mc pf) (f12_keep a Mr) := by
  have hR := h
  obtain ⟨⟨q1, q2, q3, q4, q5, q6, q7, q8⟩, h2, h3, h4, h5, h6, h7, h8, h9, h10, h11⟩ := h
  have hcu := q6.1
  have no : ∀ v, g11_keep a Mc pf = some (v, Mc, pf) → f12_keep a Mr = some (v, gz_w Mr 0 5 0) → gp_call B (g11_keep a Mc pf) (f12_keep a Mr) := fun v e1 e2 => ⟨v, Mc, pf, gz_w Mr 0 5 0, e1, e2, cu, x, b, us, ks, o, hR.ans gp_qC.refl (gp_thr 0).1 (q8.fr rfl rfl rfl (gp_gn (by omega)))⟩
  rcases gp_in2 a (gz_w Mr 0 5 0) with ⟨e1, e2⟩ | ⟨e0, e1, e2⟩ | ⟨j, hj, rfl, e2⟩
  · refine no 0 ?_ ?_
    · unfold g11_keep; rw [if_pos e1]
    · unfold f12_keep; rw [gp_eL, e2, gp_eB2, if_pos rfl]
  · refine no 0 ?_ ?_
    · unfold g11_keep; rw [if_neg e0, if_neg e1]
    · unfold f12_keep; rw [gp_eL, e2, gp_eB2, if_pos rfl]
  · have e0 : ¬ nI j < 0 := nI_pos (by omega)
    have e1 : nI j < (2 : Int32) := nI_lt (b := 2) hj (by omega)
    have hbK : gp_bK 7 Mc b := ⟨h5, q4⟩
    -- the slot of the component
    have slot : ∃ C0 pf', C0.2 = Mc.2 ∧ (∀ c, c < 175 + 4 * j ∨ 175 + 4 * j + 3 < c → C0.1 c = Mc.1 c) ∧ gp_pf pf' ∧ pf' (10 + j) = true ∧ (∀ i, i < 12 → i ≠ 10 + j → pf' i = pf i) ∧ g11_keep (nI j) Mc pf = gz_bd (f0_copy (175 + 4 * j) 7 C0) fun M1 => some (1, M1, pf') := by
      have ea : 135 + 4 * (10 + j) = 175 + 4 * j := by omega
      by_cases hpf : pf (10 + j) = true
      · refine ⟨Mc, pf, rfl, fun _ _ => rfl, h7, hpf, fun _ _ _ => rfl, ?_⟩
        unfold g11_keep g11_keep_37
        rw [if_neg e0, if_pos e1, gp_ckb hj (by omega), nI_clamp (by omega), if_pos (by rw [h7 (10 + j) (by omega)]; exact hpf), hpf, gp_eC, ea]
      · have hpf' : pf (10 + j) = false := by simpa using hpf
        have p1 : gz_pfs (gz_pfs pf (10 + j)) (100 + (10 + j)) (10 + j) = true := by
          unfold gz_pfs
          rw [if_neg (by omega), if_pos rfl]
        have p3 : gz_pfs pf (10 + j) (10 + j) = true := by
          unfold gz_pfs
          rw [if_pos rfl]
        refine ⟨gz_nb Mc (10 + j), gz_pfs (gz_pfs pf (10 + j)) (100 + (10 + j)), rfl, fun c hc => ?_, fun i hi => ?_, p1, fun i hi hn => ?_, ?_⟩
        · unfold gz_nb
          dsimp only
          rw [if_neg (by omega)]
        · unfold gz_pfs
          by_cases hji : i = 10 + j
          · rw [hji, if_pos rfl, if_neg (by omega), if_pos rfl]
          · rw [if_neg (by omega), if_neg (by omega), if_neg (by omega), if_neg hji]
            exact h7 i hi
        · unfold gz_pfs
          rw [if_neg (by omega), if_neg hn]
        · unfold g11_keep g11_keep_37
          rw [if_neg e0, if_pos e1, gp_ckb hj (by omega), nI_clamp (by omega), if_neg (by rw [h7 (10 + j) (by omega)]; exact hpf), show decide (0 + 1 ≤ 1) = true from by decide, gp_eC, decide_eq_true (show 10 + j < 12 by omega), gp_eC, hpf', Bool.not_false, gp_eC, h7 (10 + j) (by omega), hpf', Bool.not_false, gp_eC, gp_eL, gp_ckb hj (by omega), p3, gp_eC, decide_eq_true rfl, gp_eC, ea]
    obtain ⟨C0, pf', s1, s2, s3, s4, s5, s6⟩ := slot
    have hb0 : gp_bK 7 C0 b := hbK.fr (fun c c1 c2 => s2 c (by omega))
    obtain ⟨C, b1, b2, b3, b4⟩ := gp_bcp (k := 175 + 4 * j) (k0 := 7) (by omega) C0
    have Cc : ∀ c, c < 175 + 4 * j ∨ 175 + 4 * j + 3 < c → C.1 c = Mc.1 c := fun c hc => by rw [b3 c (by omega), s2 c hc]
    -- the reference
    obtain ⟨N, hN⟩ : ∃ N, N = gz_w (gz_w Mr 0 5 0) 22 j 1 := ⟨_, rfl⟩
    have Nc : ∀ c, c ≠ 0 → c ≠ 22 → N.1 c = Mr.1 c := fun c e1 e2 => by rw [hN, gp_wc _ e2, gp_wc _ e1]
    have lp := gp_fl_l (M := N) (c := 21) (o := 106 * j) (N := 106) (v := fun i => N.1 1 i) (fun n a M => f12_keep_25 n (nI j) a M) (fun M1 => some (1, M1)) (fun n => by
      show f12_keep_25 (n + 1) _ _ _ = _
      rw [f12_keep_25, if_pos (show (106 : Int32) ≤ nI 106 by decide)]) (fun n i hi => by
      show f12_keep_25 (n + 1) _ _ _ = f12_keep_25 n _ _ _
      rw [f12_keep_25, if_neg (show ¬ (106 : Int32) ≤ nI i from nI_ge (b := 106) hi (by omega)), show (106 : Int32) = nI 106 from rfl, pk_mul, nI_add, gp_ckb (show i < 106 by omega) (by omega), gp_ckb (show 106 * j + i < 212 by omega) (by omega), nI_clamp (by omega), nI_clamp (by omega), gp_fl_c (show (1 : Nat) ≠ 21 by omega), gp_eL, gp_eL, nI_1]) gz_FU (by unfold gz_FU; omega)
    obtain ⟨R, hR'⟩ : ∃ R, R = gp_fl N 21 (106 * j) 106 (fun i => N.1 1 i) := ⟨_, rfl⟩
    rw [← hR'] at lp
    have Rc : ∀ c, c ≠ 0 → c ≠ 21 → c ≠ 22 → R.1 c = Mr.1 c := fun c e1 e2 e3 => by rw [hR', gp_fl_c e2, Nc c e1 e3]
    have R0 : ∀ i, i ≠ 5 → R.1 0 i = Mr.1 0 i := fun i hi => by rw [hR', gp_fl_c (by omega), hN, gp_gn (by omega), gp_gn (by omega)]
    have eC : g11_keep (nI j) Mc pf = some (1, C, pf') := by rw [s6, b1, gp_eB]
    have eR : f12_keep (nI j) Mr = some (1, R) := by
      unfold f12_keep
      rw [gp_eL, e2, gp_eB2, if_neg (by decide), gp_ckb hj (by omega), show vp_nar .boolean 1 = 1 from by decide, gp_eL, nI_clamp (by omega), ← hN, show (0 : Int32) = nI 0 from rfl]
      exact lp
    refine ⟨1, C, pf', R, eC, eR, cu, x, b, us, fun i => if i = j then some b else ks i, o, ⟨q1, q2.fr (fun c c1 c2 => Cc c (by omega)), q3.fr (fun c c1 c2 => Rc c (by omega) (by omega) (by omega)) (R0 10 (by omega)), q4.fr (fun c c1 c2 => Cc c (by omega)), q5.fr (Rc 1 (by omega) (by omega) (by omega)), ⟨hcu, by rw [Cc 0 (by omega)]; exact q6.2.1, q6.2.2.1.fr (fun c c1 c2 => Cc c (by omega)), q6.2.2.2⟩, by rw [Cc 0 (by omega)]; exact q7, q8.fr (by rw [b2, s1]) (by rw [Cc 0 (by omega)]) (by rw [hR', hN]; rfl) (R0 4 (by omega))⟩, h2, h3.fr (Cc 1 (by omega)) (Cc 2 (by omega)), h4.fr (Rc 2 (by omega) (by omega) (by omega)) (R0 2 (by omega)), ?_, h6.fr (Rc 1 (by omega) (by omega) (by omega)), s3, ?_, h9, h10.fr (Rc 33 (by omega) (by omega) (by omega)) (R0 51 (by omega)), fun i hi => ?_⟩
    · obtain ⟨a1, a2, a3⟩ := h5
      exact ⟨a1, by rw [Cc 7 (by omega)]; exact a2, fun i hi => by rw [Cc 8 (by omega)]; exact a3 i hi⟩
    · obtain ⟨a1, a2, a3, a4, a5⟩ := h8.fr (M' := C) (fun c hc => Cc c (by omega))
      refine ⟨a1, a2, a3, a4, fun i hi => ⟨?_, (a5 i hi).2⟩⟩
      have := Nat.mod_lt (o + i) (show 10 > 0 by omega)
      rw [s5 _ (by omega) (by omega)]
      exact (a5 i hi).1
    · dsimp only
      by_cases hij : i = j
      · rw [hij, if_pos rfl]
        refine ⟨h2, s4, ?_, ?_, ?_⟩
        · rw [show 135 + 4 * (10 + j) = 175 + 4 * j by omega]
          exact b4 b hb0
        · rw [hR', gp_fl_c (by omega), hN, gp_gs]
        · refine h6.cp h2.1.1 h2.2.2.1 (fun i hi => ?_)
          rw [hR', gp_fl_i hi, Nat.zero_add, Nc 1 (by omega) (by omega)]
      · rw [if_neg hij]
        have hk := h11 i hi
        cases hks : ks i with
        | none =>
          rw [hks] at hk
          refine ⟨by rw [s5 _ (by omega) (by omega)]; exact hk.1, ?_⟩
          rw [hR', gp_fl_c (by omega), hN, gp_gn (by omega), gp_wc _ (by omega)]
          exact hk.2
        | some u =>
          rw [hks] at hk
          obtain ⟨k1, k2, k3, k4, k5⟩ := hk
          refine ⟨k1, by rw [s5 _ (by omega) (by omega)]; exact k2, k3.fr (fun c c1 c2 => Cc c (by omega)), ?_, k5.cp k1.1.1 k1.2.2.1 (fun y hy => ?_)⟩
          · rw [hR', gp_fl_c (by omega), hN, gp_gn (by omega), gp_wc _ (by omega)]
            exact k4
          · rw [hR', gp_fl_n (by omega), Nc 21 (by omega) (by omega)]
end
end
section
/-! lines that are changed, on both sides -/
def gp_ins (l : List Nat) (q s : Nat) : List Nat := l.take q ++ s :: l.drop q
def gp_del (l : List Nat) (q : Nat) : List Nat := l.take q ++ l.drop (q + 1)
section
variable {l : List Nat} {q s i : Nat}
theorem gp_ins_len (h : q ≤ l.length) : (gp_ins l q s).length = l.length + 1 := by unfold gp_ins; simp; omega
theorem gp_del_len (h : q < l.length) : (gp_del l q).length = l.length - 1 := by unfold gp_del; simp; omega
theorem gp_ins_D (h : q ≤ l.length) (i : Nat) : (gp_ins l q s).getD i 0 = if i < q then l.getD i 0 else if i = q then s else l.getD (i - 1) 0 := by
  unfold gp_ins
  have ht : (l.take q).length = q := by simp; omega
  by_cases h1 : i < q
  · rw [if_pos h1, List.getD_eq_getElem?_getD, List.getElem?_append_left (by omega), List.getElem?_take, if_pos h1, List.getD_eq_getElem?_getD]
  · rw [if_neg h1, List.getD_eq_getElem?_getD, List.getElem?_append_right (by omega), ht]
    by_cases h2 : i = q
    · rw [if_pos h2, h2, Nat.sub_self]
      rfl
    · rw [if_neg h2]
      obtain ⟨j, rfl⟩ : ∃ j, i = q + (j + 1) := ⟨i - q - 1, by omega⟩
      rw [show q + (j + 1) - q = j + 1 by omega, show q + (j + 1) - 1 = q + j by omega, List.getElem?_cons_succ, List.getElem?_drop, List.getD_eq_getElem?_getD]
theorem gp_del_D (h : q < l.length) (i : Nat) : (gp_del l q).getD i 0 = if i < q then l.getD i 0 else l.getD (i + 1) 0 := by
  unfold gp_del
  have ht : (l.take q).length = q := by simp; omega
  by_cases h1 : i < q
  · rw [if_pos h1, List.getD_eq_getElem?_getD, List.getElem?_append_left (by omega), List.getElem?_take, if_pos h1, List.getD_eq_getElem?_getD]
  · rw [if_neg h1, List.getD_eq_getElem?_getD, List.getElem?_append_right (by omega), ht]
    obtain ⟨j, rfl⟩ : ∃ j, i = q + j := ⟨i - q, by omega⟩
    rw [show q + j - q = j by omega, List.getElem?_drop, List.getD_eq_getElem?_getD, show q + 1 + j = q + j + 1 by omega]
theorem gp_set_D (h : q < l.length) (i : Nat) : (l.set q s).getD i 0 = if i = q then s else l.getD i 0 := by
  by_cases h1 : i = q
  · rw [if_pos h1, h1]
    simp [List.getD, h]
  · rw [if_neg h1]
    simp [List.getD, List.getElem?_set, Ne.symm h1]
end
/-- entries above q go one place on -/
def gp_shd (M : gz_M) (c o q y : Nat) (len : Nat) : gz_M := (fun a i => if a = c ∧ o + y < i ∧ i ≤ o + len then M.1 c (i - 1) else M.1 a i, M.2)
theorem gp_shd_c {M : gz_M} {c o q y len a : Nat} (h : a ≠ c) : (gp_shd M c o q y len).1 a = M.1 a := by
  funext i
  unfold gp_shd
  dsimp only
  rw [if_neg (fun h' => h h'.1)]
theorem gp_shd_i {M : gz_M} {c o q y len i : Nat} : (gp_shd M c o q y len).1 c i = if o + y < i ∧ i ≤ o + len then M.1 c (i - 1) else M.1 c i := by
  unfold gp_shd
  dsimp only
  by_cases h : o + y < i ∧ i ≤ o + len
  · rw [if_pos ⟨rfl, h⟩, if_pos h]
  · rw [if_neg (fun h' => h h'.2), if_neg h]
theorem gp_dnL {β : Type} (f : Nat → Int32 → gz_M → Option β) (K : gz_M → Option β) (M : gz_M) (c o q len : Nat) (hq : q ≤ len) (hend : ∀ n, f (n + 1) (nI q) (gp_shd M c o q q len) = K (gp_shd M c o q q len)) (hstep : ∀ n y, q ≤ y → y < len → f (n + 1) (nI (y + 1)) (gp_shd M c o q (y + 1) len) = f n (nI y) (gz_w (gp_shd M c o q (y + 1) len) c (o + (y + 1)) (M.1 c (o + y)))) (hl : len < gz_FU) : f gz_FU (nI len) M = K (gp_shd M c o q q len) := by
  have st : ∀ y, y < len → gz_w (gp_shd M c o q (y + 1) len) c (o + (y + 1)) (M.1 c (o + y)) = gp_shd M c o q y len := fun y hy => by
    refine Prod.ext (funext fun a => funext fun i => ?_) rfl
    by_cases h : a = c ∧ i = o + (y + 1)
    · rw [h.1, h.2, gp_gs, gp_shd_i, if_pos (by omega), show o + (y + 1) - 1 = o + y by omega]
    · rw [gp_gn h]
      unfold gp_shd
      dsimp only
      by_cases h1 : a = c ∧ o + (y + 1) < i ∧ i ≤ o + len
      · rw [if_pos h1, if_pos (by omega)]
      · rw [if_neg h1, if_neg (by omega)]
  have main : ∀ d y n, y = q + d → y ≤ len → d < n → f n (nI y) (gp_shd M c o q y len) = K (gp_shd M c o q q len) := by
    intro d
    induction d with
    | zero =>
      intro y n hy hl hn
      obtain ⟨n, rfl⟩ : ∃ q, n = q + 1 := ⟨n - 1, by omega⟩
      rw [show y = q by omega]
      exact hend n
    | succ d ih =>
      intro y n hy hl hn
      obtain ⟨n, rfl⟩ : ∃ q, n = q + 1 := ⟨n - 1, by omega⟩
      obtain ⟨z, rfl⟩ : ∃ z, y = z + 1 := ⟨y - 1, by omega⟩
      rw [hstep n z (by omega) (by omega), st z (by omega)]
      exact ih z n (by omega) (by omega) (by omega)
  have e0 : gp_shd M c o q len len = M := by
    refine Prod.ext (funext fun a => funext fun i => ?_) rfl
    unfold gp_shd
    dsimp only
    rw [if_neg (by omega)]
  have := main (len - q) len gz_FU (by omega) (Nat.le_refl _) (by omega)
  rwa [e0] at this
theorem gp_addm (y : Nat) : nI (y + 1) + (-1) = nI y := by
  have := nI_pred y
  rwa [Int32.sub_eq_add_neg] at this
section
variable {M : gz_M} {l : List Nat} {k q s : Nat}
/-- the component's line -/
def gp_lL (k : Nat) (M M' : gz_M) : Prop := M'.2 = M.2 ∧ ∀ c, c ≠ k → c ≠ k + 1 → M'.1 c = M.1 c
theorem gp_putC (h : gp_lC k M l) (hq : q < l.length) (hs : s < 8) : ∃ M', f5_put k (nI q) (nI s) M = some M' ∧ gp_lL k M M' ∧ gp_lC k M' (l.set q s) := by
  have h1 := h.1
  unfold f5_put
  rw [if_neg (nI_pos (by omega)), h.2.1, if_neg (nI_ge hq (by omega)), if_neg (show ¬ (24 : Int32) ≤ nI q from nI_ge (b := 24) (by omega) (by omega)), gp_ckb (show q < 24 by omega) (by omega), gp_eL, nI_clamp (by omega)]
  refine ⟨_, rfl, ⟨rfl, fun c c1 c2 => gp_wc _ c2⟩, by simpa using h.1, by rw [gp_gn (by omega)]; simpa using h.2.1, fun i hi => ?_⟩
  have hi : i < l.length := by simpa using hi
  rw [gp_set_D hq]
  by_cases e : i = q
  · rw [e, gp_gs, if_pos rfl]
    exact ⟨rfl, hs⟩
  · rw [gp_gn (by omega), if_neg e]
    exact h.2.2 i hi
theorem gp_insC (h : gp_lC k M l) (hq : q ≤ l.length) (hs : s < 8) (hl : l.length < 24) : ∃ M', f5_insert k (nI q) (nI s) M = some M' ∧ gp_lL k M M' ∧ gp_lC k M' (gp_ins l q s) := by
  have e := gp_dnL (fun n y M => f5_insert_27 k n (nI q) (nI s) y M) (fun M1 => some (gz_w (gz_w M1 (k + 1) q (nI s)) k 1 (nI (l.length + 1)))) M (k + 1) 0 q l.length hq (fun n => by
    show f5_insert_27 k (n + 1) _ _ _ _ = _
    rw [f5_insert_27, if_pos (nI_le (Nat.le_refl _) (by omega)), gp_ckb (show q < 24 by omega) (by omega), nI_clamp (by omega), gp_eL, gp_gn (by omega), gp_shd_c (by omega), h.2.1, nI_1, gp_eL]) (fun n y h1 h2 => by
    show f5_insert_27 k (n + 1) _ _ _ _ = f5_insert_27 k n _ _ _ _
    rw [f5_insert_27, if_neg (nI_ge (by omega) (by omega)), nI_pred, gp_ckb (show y < 24 by omega) (by omega), gp_ckb (show y + 1 < 24 by omega) (by omega), nI_clamp (by omega), nI_clamp (by omega), gp_shd_i, if_neg (by omega), gp_eL, gp_eL, gp_addm, Nat.zero_add, Nat.zero_add]) (by unfold gz_FU; omega)
  unfold f5_insert
  rw [if_neg (nI_pos (by omega)), h.2.1, if_neg (nI_nlt hq (by omega)), if_pos (show nI l.length < (24 : Int32) from nI_lt (b := 24) hl (by omega)), gp_eL]
  refine ⟨_, e, ⟨rfl, fun c c1 c2 => by rw [gp_wc _ c1, gp_wc _ c2, gp_shd_c c2]⟩, by rw [gp_ins_len hq]; omega, by rw [gp_gs, gp_ins_len hq], fun i hi => ?_⟩
  rw [gp_ins_len hq] at hi
  rw [gp_gn (by omega), gp_ins_D hq]
  by_cases e1 : i = q
  · rw [e1, gp_gs, if_neg (by omega), if_pos rfl]
    exact ⟨rfl, hs⟩
  · rw [gp_gn (by omega), gp_shd_i, Nat.zero_add, Nat.zero_add]
    by_cases e2 : i < q
    · rw [if_neg (by omega), if_pos e2]
      exact h.2.2 i (by omega)
    · rw [if_pos (by omega), if_neg e2, if_neg e1]
      exact h.2.2 (i - 1) (by omega)
theorem gp_delC (h : gp_lC k M l) (hq : q < l.length) : ∃ M', f5_remove k (nI q) M = some M' ∧ gp_lL k M M' ∧ gp_lC k M' (gp_del l q) := by
  have h1 := h.1
  have hlen : nI l.length - 1 = nI (l.length - 1) := by
    obtain ⟨z, hz⟩ : ∃ z, l.length = z + 1 := ⟨l.length - 1, by omega⟩
    rw [hz, nI_pred]
    rfl
  have e := gp_fl_l (M := M) (c := k + 1) (o := q) (N := l.length - 1 - q) (v := fun x => M.1 (k + 1) (q + x + 1)) (fun n x M => f5_remove_24 k n (nI q + x) M) (fun M1 => some (gz_w M1 k 1 (nI (l.length - 1)))) (fun n => by
    show f5_remove_24 k (n + 1) _ _ = _
    rw [nI_add, f5_remove_24, gp_fl_c (by omega), h.2.1, hlen, if_pos (nI_le (by omega) (by omega)), gp_eL]) (fun n x hx => by
    show f5_remove_24 k (n + 1) _ _ = f5_remove_24 k n _ _
    rw [nI_add, nI_add, f5_remove_24, gp_fl_c (by omega), h.2.1, hlen, if_neg (nI_ge (by omega) (by omega)), nI_1, gp_ckb (show q + x + 1 < 24 by omega) (by omega), gp_ckb (show q + x < 24 by omega) (by omega), nI_clamp (by omega), nI_clamp (by omega), gp_fl_n (by omega), gp_eL, gp_eL]
    rfl) gz_FU (by unfold gz_FU; omega)
  unfold f5_remove
  rw [if_neg (nI_pos (by omega)), h.2.1, if_neg (nI_ge hq (by omega)), if_pos (show nI l.length ≤ (24 : Int32) from nI_le (b := 24) h1 (by omega))]
  change f5_remove_24 k gz_FU (nI q + nI 0) M = _ at e
  rw [nI_add, Nat.add_zero] at e
  refine ⟨_, e, ⟨rfl, fun c c1 c2 => by rw [gp_wc _ c1, gp_fl_c c2]⟩, by rw [gp_del_len hq]; omega, by rw [gp_gs, gp_del_len hq], fun i hi => ?_⟩
  rw [gp_del_len hq] at hi
  rw [gp_gn (by omega), gp_del_D hq]
  by_cases e2 : i < q
  · rw [gp_fl_n (by omega), if_pos e2]
    exact h.2.2 i (by omega)
  · rw [if_neg e2]
    obtain ⟨j, rfl⟩ : ∃ j, i = q + j := ⟨i - q, by omega⟩
    rw [gp_fl_i (by omega)]
    exact h.2.2 (q + j + 1) (by omega)
end
/-! another line -/
section
variable {B : Prop} {pf pf' : Nat → Bool} {M M' Mc Mr Mc' Mr' C R : gz_M} {cu cu' o o' : Nat} {x x' t l l' : List Nat} {b u : gp_Bk} {us us' : List gp_Bk} {ks ks' : Nat → Option gp_Bk}
theorem gp_RI.nl (h : gp_RI B pf cu Mc Mr x b us ks o) (hcu' : cu' = 30 ∨ cu' = 60) (k5 : gz_cIx (C.1 0 5) = cu') (k8 : gz_cIx (C.1 0 8) = 90 - cu') (cc : ∀ c, c = 7 ∨ c = 8 ∨ (11 ≤ c ∧ c < 30) ∨ 175 ≤ c → C.1 c = Mc.1 c) (hl : gp_lC 9 C l') (hcut : gp_cC cu' C (gp_cut (gp_tab b.1) l')) (hx : gp_xC C x') (hp : gp_pf pf') (hpk : ∀ j, 10 ≤ j → j < 12 → pf' j = pf j) (hH : gp_H pf' C o' us') (rc : ∀ c, (5 ≤ c ∧ c ≤ 14) ∨ c = 21 ∨ c = 22 → R.1 c = Mr.1 c) (r10 : R.1 0 10 = Mr.1 0 10) (hr : gp_rB 1 0 R (b.1, l')) (htx : gp_txR R x') (hU : gp_uR R us') (hok : ∀ u, u ∈ us' → gp_okB u) (hrw : gp_rw B C R) : gp_RI B pf' cu' C R x' (b.1, l') us' ks o' := by
  obtain ⟨⟨q1, q2, q3, q4, q5, q6, q7, q8⟩, h2, h3, h4, h5, h6, h7, h8, h9, h10, h11⟩ := h
  have hb : gp_okB (b.1, l') := ⟨h2.1, h2.2.1, hl.1, fun i hi => (hl.2.2 i hi).2⟩
  refine ⟨⟨q1, q2.fr (fun c c1 c2 => cc c (by omega)), q3.fr (fun c c1 c2 => rc c (by omega)) r10, hl, hr.lR hb, ⟨hcu', k5, hcut, gp_cut_len⟩, k8, hrw⟩, hb, hx, htx, ?_, hr, hp, hH, hok, hU, h11.fr hpk (fun c hc => cc c (by omega)) (fun c hc => rc c (by omega))⟩
  obtain ⟨a1, a2, a3⟩ := h5
  exact ⟨a1, by rw [cc 7 (by omega)]; exact a2, fun i hi => by rw [cc 8 (by omega)]; exact a3 i hi⟩
/-- the reference sets its line -/
theorem gp_setL {n : Nat} (hn : n ≤ 24) (M : gz_M) : ∃ M', f12_setLine (nI n) M = some M' ∧ M'.2 = M.2 ∧ (∀ c, c ≠ 1 → M'.1 c = M.1 c) ∧ (∀ i, i < 81 → M'.1 1 i = M.1 1 i) ∧ M'.1 1 81 = nI n ∧ ∀ i, i < n → M'.1 1 (82 + i) = M.1 15 i := by
  obtain ⟨N, hN⟩ : ∃ N, N = gz_w M 1 81 (nI n) := ⟨_, rfl⟩
  have e := gp_fl_l (M := N) (c := 1) (o := 82) (N := 24) (v := fun i => if n ≤ i then 0 else M.1 15 i) (fun k a M => f12_setLine_10 k (nI n) a M) (fun M1 => some M1) (fun k => by
    show f12_setLine_10 (k + 1) _ _ _ = _
    rw [f12_setLine_10, if_pos (show (24 : Int32) ≤ nI 24 by decide)]) (fun k i hi => by
    show f12_setLine_10 (k + 1) _ _ _ = f12_setLine_10 k _ _ _
    have e82 : (82 : Int32) + nI i = nI (82 + i) := by rw [show (82 : Int32) = nI 82 from rfl, nI_add]
    rw [f12_setLine_10, if_neg (show ¬ (24 : Int32) ≤ nI i from nI_ge (b := 24) hi (by omega)), e82]
    by_cases h : n ≤ i
    · rw [if_pos (nI_le h (by omega)), gp_ckb (show 82 + i < 106 by omega) (by omega), nI_clamp (by omega), gp_eL, gp_eL, nI_1]
      show f12_setLine_10 k _ _ (gz_w _ _ _ _) = f12_setLine_10 k _ _ (gz_w _ _ _ (if n ≤ i then 0 else M.1 15 i))
      rw [if_pos h]
    · rw [if_neg (nI_ge (by omega) (by omega)), gp_ckb (show i < 24 by omega) (by omega), gp_ckb (show 82 + i < 106 by omega) (by omega), nI_clamp (by omega), nI_clamp (by omega), gp_fl_c (by omega), hN, gp_wc _ (by omega), gp_eL, gp_eL, nI_1]
      show f12_setLine_10 k _ _ (gz_w _ _ _ _) = f12_setLine_10 k _ _ (gz_w _ _ _ (if n ≤ i then 0 else M.1 15 i))
      rw [if_neg h]) gz_FU (by unfold gz_FU; omega)
  unfold f12_setLine
  rw [gp_c81, gp_k81, gp_eL, ← hN, show (0 : Int32) = nI 0 from rfl]
  refine ⟨_, e, by rw [gp_fl_2, hN]; rfl, fun c hc => by rw [gp_fl_c hc, hN, gp_wc _ hc], fun i hi => by rw [gp_fl_n (by omega), hN, gp_gn (by omega)], by rw [gp_fl_n (by omega), hN, gp_gs], fun i hi => ?_⟩
  rw [gp_fl_i (by omega)]
  show (if n ≤ i then 0 else M.1 15 i) = _
  rw [if_neg (by omega)]
end
end
section
/-! promise 5: line -/
def gp_lf (x : List Nat) : Nat → Nat → Option Nat
  | 0, _ => none
  | n + 1, p => if 24 ≤ p ∨ ¬ (97 ≤ x.getD p 0 ∧ x.getD p 0 ≤ 104) then some p else gp_lf x n (p + 1)
def gp_lm (x : List Nat) (p : Nat) : List Nat := (x.take p).map (fun c => c - 97)
theorem gp_lf_some {x : List Nat} : ∀ (d p q : Nat), gp_lf x d p = some q → p ≤ q ∧ q < p + d ∧ (q ≤ 24 ∨ q = p)
  | 0, p, q, h => by cases h
  | d + 1, p, q, h => by
    rw [gp_lf] at h
    split at h
    · cases h
      exact ⟨by omega, by omega, Or.inr rfl⟩
    · rename_i hc
      obtain ⟨a1, a2, a3⟩ := gp_lf_some d (p + 1) q h
      refine ⟨by omega, by omega, ?_⟩
      rcases a3 with a3 | a3
      · exact Or.inl a3
      · left
        omega
theorem gp_lf_none {x : List Nat} : ∀ (d p : Nat), gp_lf x d p = none → ∀ i, p ≤ i → i < p + d → i < 24 ∧ 97 ≤ x.getD i 0 ∧ x.getD i 0 ≤ 104
  | 0, p, h, i, h1, h2 => by omega
  | d + 1, p, h, i, h1, h2 => by
    rw [gp_lf] at h
    split at h
    · cases h
    · rename_i hc
      by_cases e : i = p
      · rw [e]
        have h24 : ¬ 24 ≤ p := fun g => hc (Or.inl g)
        have hs : 97 ≤ x.getD p 0 ∧ x.getD p 0 ≤ 104 := Classical.byContradiction fun g => hc (Or.inr g)
        exact ⟨by omega, hs⟩
      · exact gp_lf_none d (p + 1) h i (by omega) (by omega)
theorem gp_lm_len {x : List Nat} {p : Nat} (h : p ≤ x.length) : (gp_lm x p).length = p := by unfold gp_lm; simp; omega
theorem gp_lm_s {x : List Nat} {p : Nat} (h : p < x.length) : gp_lm x (p + 1) = gp_lm x p ++ [x.getD p 0 - 97] := by
  unfold gp_lm
  rw [gp_take (d := 0) h, List.map_append]
  rfl
theorem gp_ins_end (l : List Nat) (s : Nat) : gp_ins l l.length s = l ++ [s] := by unfold gp_ins; simp
theorem gp_lm_D {x : List Nat} {p i : Nat} (h : p ≤ x.length) (hi : i < p) : (gp_lm x p).getD i 0 = x.getD i 0 - 97 := by
  unfold gp_lm
  have h1 : i < x.length := by omega
  simp [List.getD, List.getElem?_take, hi, h1]
section
variable {B : Prop} {pf pf' : Nat → Bool} {M M' Mc Mr Mc' Mr' C R : gz_M} {cu cu' o o' : Nat} {x x' t l l' : List Nat} {b u : gp_Bk} {us us' : List gp_Bk} {ks ks' : Nat → Option gp_Bk} {k : Nat}
theorem gp_isS {c : Nat} (hc : c < 256) (M : gz_M) : f3_isSign (nI c) M = some ((if 97 ≤ c ∧ c ≤ 104 then 1 else 0), M) := by
  unfold f3_isSign
  by_cases h1 : c < 97
  · rw [if_pos (show nI c < (97 : Int32) from nI_lt (b := 97) h1 (by omega)), if_neg (by omega)]
  · rw [if_neg (show ¬ nI c < (97 : Int32) from nI_nlt (b := 97) (by omega) (by omega))]
    by_cases h2 : 104 < c
    · rw [if_pos (show (104 : Int32) < nI c from nI_lt (a := 104) h2 (by omega)), if_neg (by omega)]
    · rw [if_neg (show ¬ (104 : Int32) < nI c from nI_nlt (a := 104) (b := c) (by omega) (by omega)), if_pos (by omega)]
theorem gp_lfC (h : gp_xC M x) : f3_faultOfLine M = some (gp_ans1 (gp_lf x x.length 0), M) := by
  have h80 := h.1
  have main : ∀ d p n, p + d = x.length → d < n → f3_faultOfLine_2 n (nI p) M = some (gp_ans1 (gp_lf x d p), M) := by
    intro d
    induction d with
    | zero =>
      intro p n hp hn
      obtain ⟨n, rfl⟩ : ∃ q, n = q + 1 := ⟨n - 1, by omega⟩
      rw [f3_faultOfLine_2, h.2.1, if_pos (nI_le (by omega) (by omega))]
      rfl
    | succ d ih =>
      intro p n hp hn
      obtain ⟨n, rfl⟩ : ∃ q, n = q + 1 := ⟨n - 1, by omega⟩
      rw [f3_faultOfLine_2, h.2.1, if_neg (nI_ge (by omega) (by omega)), gp_lf]
      by_cases h24 : 24 ≤ p
      · rw [if_pos (show (24 : Int32) ≤ nI p from nI_le (a := 24) h24 (by omega)), if_pos (Or.inl h24)]
        rfl
      · rw [if_neg (show ¬ (24 : Int32) ≤ nI p from nI_ge (b := 24) (by omega) (by omega)), gp_xget h (by omega), gp_eB2, gp_isS (h.2.2 p (by omega)).2, gp_eB2]
        by_cases hs : 97 ≤ x.getD p 0 ∧ x.getD p 0 ≤ 104
        · rw [if_neg (show ¬ (if 97 ≤ x.getD p 0 ∧ x.getD p 0 ≤ 104 then (1 : Int32) else 0) = 0 from by rw [if_pos hs]; decide), gp_eL, nI_1, if_neg (show ¬ (24 ≤ p ∨ ¬ (97 ≤ x.getD p 0 ∧ x.getD p 0 ≤ 104)) from fun g => g.elim h24 (fun g => g hs))]
          exact ih (p + 1) n (by omega) (by omega)
        · rw [if_pos (show (if 97 ≤ x.getD p 0 ∧ x.getD p 0 ≤ 104 then (1 : Int32) else 0) = 0 from if_neg hs), if_pos (Or.inr hs)]
          rfl
  unfold f3_faultOfLine
  exact main x.length 0 gz_FU (by omega) (by unfold gz_FU; omega)
theorem gp_takeC (hk : 2 < k) (h : gp_xC M x) (hf : gp_lf x x.length 0 = none) : ∃ M', f5_take k M = some M' ∧ gp_lL k M M' ∧ gp_lC k M' (gp_lm x x.length) := by
  have h80 := h.1
  have hs := gp_lf_none x.length 0 hf
  have main : ∀ d p n (N : gz_M), p + d = x.length → d < n → gp_lL k M N → gp_lC k N (gp_lm x p) → ∃ M', f5_take_7 k n (nI p) N = some M' ∧ gp_lL k M M' ∧ gp_lC k M' (gp_lm x x.length) := by
    intro d
    induction d with
    | zero =>
      intro p n N hp hn hL hC
      obtain ⟨n, rfl⟩ : ∃ q, n = q + 1 := ⟨n - 1, by omega⟩
      have hx : gp_xC N x := h.fr (hL.2 1 (by omega) (by omega)) (hL.2 2 (by omega) (by omega))
      have : p = x.length := by omega
      rw [f5_take_7, hx.2.1, if_pos (nI_le (by omega) (by omega))]
      rw [this] at hC
      exact ⟨N, rfl, hL, hC⟩
    | succ d ih =>
      intro p n N hp hn hL hC
      obtain ⟨n, rfl⟩ : ∃ q, n = q + 1 := ⟨n - 1, by omega⟩
      have hx : gp_xC N x := h.fr (hL.2 1 (by omega) (by omega)) (hL.2 2 (by omega) (by omega))
      obtain ⟨s1, s2, s3⟩ := hs p (by omega) (by omega)
      have hl := gp_lm_len (x := x) (p := p) (by omega)
      obtain ⟨N2, e1, e2, e3⟩ := gp_insC (q := p) (s := x.getD p 0 - 97) hC (by omega) (by omega) (by omega)
      have ei : gp_ins (gp_lm x p) p (x.getD p 0 - 97) = gp_lm x (p + 1) := by
        rw [gp_lm_s (by omega)]
        have := gp_ins_end (gp_lm x p) (x.getD p 0 - 97)
        rwa [hl] at this
      rw [ei] at e3
      rw [f5_take_7, hx.2.1, if_neg (nI_ge (by omega) (by omega)), gp_xget hx (by omega), gp_eB2, show (97 : Int32) = nI 97 from rfl, gp_subI s2, e1, gp_eB, gp_eL, nI_1]
      exact ih (p + 1) n N2 (by omega) (by omega) ⟨e2.1.trans hL.1, fun c c1 c2 => (e2.2 c c1 c2).trans (hL.2 c c1 c2)⟩ e3
  unfold f5_take
  rw [gp_eL]
  refine main x.length 0 gz_FU _ (by omega) (by unfold gz_FU; omega) ⟨rfl, fun c c1 c2 => gp_wc _ c1⟩ ⟨by unfold gp_lm; simp, by rw [gp_gs]; unfold gp_lm; simp; rfl, fun i hi => absurd hi (by unfold gp_lm; simp)⟩
theorem gp_wrN {q : Nat} (h : M.1 0 9 = nI q) (hq : q < 2 ^ 31) : f12_wasRight M = some (0, M) := by
  have e19 : f12_wasRight_19 M = some (0, M) := by
    unfold f12_wasRight_19
    rw [gp_nfine h hq, gp_eB2, gp_b0, gp_eC]
  unfold f12_wasRight
  split
  · exact e19
  · rw [gp_faultN h hq, gp_eB, e19]
/-- what reading a line may change -/
def gp_lnL (M M' : gz_M) : Prop := M'.2 = M.2 ∧ (∀ c, c ≠ 0 → c ≠ 15 → M'.1 c = M.1 c) ∧ ∀ i, i ≠ 8 → i ≠ 9 → M'.1 0 i = M.1 0 i
theorem gp_line11 : ∀ (d p n : Nat) (M : gz_M), p + d = x.length → d + 1 < n → gp_at M x p → p ≤ 24 → (∀ i, i < p → M.1 15 i = nI (x.getD i 0 - 97)) → ∃ M', gp_lnL M M' ∧ ((∃ q, gp_lf x d p = some q ∧ f12_line_11 n (nI p) M = some ((-1) - nI q, M')) ∨ (gp_lf x d p = none ∧ f12_line_11 n (nI p) M = (gz_bd (f12_change M') fun M5 => gz_bd (f12_setLine (nI x.length) M5) fun M7 => some (nI x.length, M7)) ∧ ∀ i, i < x.length → M'.1 15 i = nI (x.getD i 0 - 97))) := by
  intro d
  induction d with
  | zero =>
    intro p n M hp hn ha h24 hd
    have h80 := ha.1
    obtain ⟨n, rfl⟩ : ∃ q, n = q + 1 := ⟨n - 1, by omega⟩
    have : p = x.length := by omega
    subst this
    refine ⟨M, ⟨rfl, fun _ _ _ => rfl, fun _ _ _ => rfl⟩, Or.inr ⟨rfl, ?_, hd⟩⟩
    rw [f12_line_11, gp_fineE ha, gp_eB2, if_neg (by decide), ha.2.2.1, ha.2.2.2.1, if_pos (nI_le (Nat.le_refl _) (by omega))]
    unfold f12_line_73
    rw [gp_wrE ha, if_pos rfl, gp_eB2, if_neg (by decide)]
  | succ d ih =>
    intro p n M hp hn ha h24 hd
    have h80 := ha.1
    obtain ⟨n, rfl⟩ : ∃ q, n = q + 2 := ⟨n - 2, by omega⟩
    have e73 : ∀ (N : gz_M) (v : Int32), N.1 0 9 = nI p → f12_line_73 v N = some ((-1) - nI p, N) := fun N v h9 => by
      unfold f12_line_73
      rw [gp_wrN h9 (by omega), gp_eB2, if_pos rfl, h9]
    rw [f12_line_11, gp_fineE ha, gp_eB2, if_neg (by decide), ha.2.2.1, ha.2.2.2.1, if_neg (nI_ge (by omega) (by omega)), gp_lf]
    by_cases he : p = 24
    · have f24 := gp_faultE ha
      rw [ha.2.2.2.1] at f24
      have h9 : (gz_w M 0 9 (nI p)).1 0 9 = nI p := gp_gs _ _ _ _
      refine ⟨gz_w (gz_w M 0 9 (nI p)) 15 0 0, ⟨rfl, fun c c1 c2 => by rw [gp_wc _ c2, gp_wc _ c1], fun i i1 i2 => by rw [gp_gn (by omega), gp_gn (by omega)]⟩, Or.inl ⟨p, if_pos (Or.inl (by omega)), ?_⟩⟩
      rw [if_pos (show nI p = (24 : Int32) from by rw [he]; rfl), f24, gp_eB]
      unfold f12_line_43 f12_line_58
      rw [if_pos (show (24 : Int32) ≤ nI p from by rw [he]; decide), gp_oneN h9 (by omega), gp_eB2, show gz_inb 0 24 = true from gp_inb (i := 0) (by omega) (by omega), gp_eC, show (0 : Int32).toNatClampNeg = 0 from rfl, gp_eL, gp_eL, f12_line_11, gp_nfine (q := p) (by rw [gp_gn (by omega)]; exact h9) (by omega), gp_eB2, if_pos rfl, e73 _ _ (by rw [gp_gn (by omega)]; exact h9)]
    · have one := gp_oneE ha (a := 97) (b := 7) (by omega) (by omega)
      have hhr : gp_hr x p = some (x.getD p 0) := gp_hrS (by omega)
      rw [hhr] at one
      dsimp only at one
      rw [if_neg (show ¬ nI p = (24 : Int32) from fun h => he ((nI_eq (b := 24) (by omega) (by omega)).mp h))]
      unfold f12_line_43 f12_line_58
      rw [if_neg (show ¬ (24 : Int32) ≤ nI p from nI_ge (b := 24) (by omega) (by omega)), show f12_oneOf 97 8 M = _ from one]
      by_cases hs : 97 ≤ x.getD p 0 ∧ x.getD p 0 ≤ 104
      · rw [if_pos (show 97 ≤ x.getD p 0 ∧ x.getD p 0 ≤ 97 + 7 from hs), gp_eB2, gp_ckb (show p < 24 by omega) (by omega), nI_clamp (by omega), gp_eL, nI_1, gp_eL, if_neg (show ¬ (24 ≤ p ∨ ¬ (97 ≤ x.getD p 0 ∧ x.getD p 0 ≤ 104)) from fun g => g.elim (by omega) (fun g => g hs))]
        have aN : gp_at (gz_w (gz_w M 0 8 (nI (p + 1))) 15 p (nI (x.getD p 0 - 97))) x (p + 1) := by
          have a1 := ha.nx (show p < x.length by omega)
          exact ⟨a1.1, a1.2.1, by rw [gp_gn (by omega)]; exact a1.2.2.1, by rw [gp_gn (by omega)]; exact a1.2.2.2.1, by rw [gp_gn (by omega)]; exact a1.2.2.2.2.1, fun i hi => by rw [gp_gn (by omega)]; exact a1.2.2.2.2.2 i hi⟩
        obtain ⟨M', f1, f2⟩ := ih (p + 1) (n + 1) _ (by omega) (by omega) aN (by omega) (fun i hi => by
          by_cases hip : i = p
          · rw [hip, gp_gs]
          · rw [gp_gn (by omega), gp_gn (by omega)]
            exact hd i (by omega))
        exact ⟨M', ⟨f1.1.trans rfl, fun c c1 c2 => by rw [f1.2.1 c c1 c2, gp_wc _ c2, gp_wc _ c1], fun i i1 i2 => by rw [f1.2.2 i i1 i2, gp_gn (by omega), gp_gn (by omega)]⟩, f2⟩
      · have h9 : (gz_w M 0 9 (nI p)).1 0 9 = nI p := gp_gs _ _ _ _
        refine ⟨gz_w (gz_w M 0 9 (nI p)) 15 p 0, ⟨rfl, fun c c1 c2 => by rw [gp_wc _ c2, gp_wc _ c1], fun i i1 i2 => by rw [gp_gn (by omega), gp_gn (by omega)]⟩, Or.inl ⟨p, if_pos (Or.inr hs), ?_⟩⟩
        rw [if_neg (show ¬ (97 ≤ x.getD p 0 ∧ x.getD p 0 ≤ 97 + 7) from hs), gp_eB2, gp_ckb (show p < 24 by omega) (by omega), nI_clamp (by omega), gp_eL, gp_eL, f12_line_11, gp_nfine (q := p) (by rw [gp_gn (by omega)]; exact h9) (by omega), gp_eB2, if_pos rfl, e73 _ _ (by rw [gp_gn (by omega)]; exact h9)]
theorem gp_a5 (h : gp_RI B pf cu Mc Mr x b us ks o) : gp_call B (g11_line Mc pf) (f12_line Mr) := by
  have hR := h
  obtain ⟨⟨q1, q2, q3, q4, q5, q6, q7, q8⟩, h2, h3, h4, h5, h6, h7, h8, h9, h10, h11⟩ := h
  have hcu := q6.1
  have h80 := h3.1
  obtain ⟨M2, b1, b2, b3⟩ := gp_begin (M := gz_w Mr 0 5 0) (h4.fr (gp_wc _ (by omega)) (gp_gn (by omega)))
  obtain ⟨M3, l1, l2⟩ := gp_line11 (x := x) x.length 0 gz_FU M2 (by omega) (by unfold gz_FU; omega) b3 (by omega) (fun i hi => absurd hi (by omega))
  have m3_2 : M3.2 = Mr.2 := by rw [l1.1, b2.1]; rfl
  have m3_c : ∀ c, c ≠ 0 → c ≠ 4 → c ≠ 15 → M3.1 c = Mr.1 c := fun c e1 e2 e3 => by rw [l1.2.1 c e1 e3, b2.2.1 c e1 e2, gp_wc _ e1]
  have m3_0 : ∀ i, i ≠ 2 → i ≠ 5 → i ≠ 7 → i ≠ 8 → i ≠ 9 → M3.1 0 i = Mr.1 0 i := fun i a1 a2 a3 a4 a5 => by rw [l1.2.2 i a4 a5, b2.2.2.1 i a1 a3 a4 a5, gp_gn (by omega)]
  have m3_02 : M3.1 0 2 = 0 := by rw [l1.2.2 2 (by omega) (by omega)]; exact b2.2.2.2
  have start : f12_line Mr = f12_line_11 gz_FU (nI 0) M2 := by
    unfold f12_line
    rw [gp_eL, b1, gp_eB]
    rfl
  have cf := gp_lfC h3
  rcases l2 with ⟨q, l2, l3⟩ | ⟨l2, l3, l4⟩
  · have hq : q < 81 := by
      have := (gp_lf_some _ _ _ l2).2.1
      omega
    obtain ⟨n1, n2⟩ := gp_neg1 q hq
    rw [l2] at cf
    refine ⟨(-1) - nI q, gz_w Mc 1 1 0, pf, M3, ?_, by rw [start]; exact l3, cu, [], b, us, ks, o, hR.emp rfl (fun c e1 e2 => gp_wc _ e1) (gp_gs _ _ _ _) m3_2 (fun c e1 e2 e3 => m3_c c (by omega) (by omega) e2) (m3_0 4 (by omega) (by omega) (by omega) (by omega) (by omega)) (m3_0 51 (by omega) (by omega) (by omega) (by omega) (by omega)) m3_02 (q3.fr (fun c c1 c2 => m3_c c (by omega) (by omega) (by omega)) (m3_0 10 (by omega) (by omega) (by omega) (by omega) (by omega)))⟩
    unfold g11_line
    rw [cf, gp_eB2, if_neg (show ¬ gp_ans1 (some q) = 0 from n1)]
    unfold g11_line_45
    rw [gp_emptyC, gp_eB, if_neg (show ¬ 0 ≤ gp_ans1 (some q) from n2)]
    rfl
  · rw [l2] at cf
    have hs := gp_lf_none _ _ l2
    have h24 : x.length ≤ 24 := by
      rcases Nat.eq_zero_or_pos x.length with h0 | h0
      · omega
      · have := (hs (x.length - 1) (by omega) (by omega)).1
        omega
    -- the component
    obtain ⟨C1, pf', o', p1, p2, p3, p4, p5, p6⟩ := gp_pushG (M := Mc) (b := b) h7 h8 ⟨h5, q4⟩
    obtain ⟨C2, t1, t2, t3⟩ := gp_takeC (k := 9) (M := C1) (by omega) (h3.fr (p3 1 (by omega) (by omega)) (p3 2 (by omega) (by omega))) l2
    have c2c : ∀ c, c ≠ 9 → c ≠ 10 → c ≠ 131 → c < 135 ∨ 175 ≤ c → C2.1 c = Mc.1 c := fun c e1 e2 e3 e4 => by rw [t2.2 c e1 e2, p3 c e3 e4]
    obtain ⟨C3, f1, f2, f3, f4⟩ := gp_recut (M := C2) (t := b.1) (l := gp_lm x x.length) q1 (q2.fr (fun c c1 c2 => c2c c (by omega) (by omega) (by omega) (by omega))) t3 hcu (by rw [c2c 0 (by omega) (by omega) (by omega) (by omega)]; exact q6.2.1)
    have eC : g11_line Mc pf = some (nI x.length, gz_w C3 1 1 0, pf') := by
      unfold g11_line
      rw [cf, gp_eB2, if_pos (show gp_ans1 none = 0 from rfl), show decide (0 + 1 ≤ 1) = true from by decide, gp_eC, p1, gp_eB2, show (7 + 2 : Nat) = 9 from rfl, t1, gp_eB, f1, gp_eB]
      unfold g11_line_45
      rw [gp_emptyC, gp_eB, if_pos (show 0 ≤ gp_ans1 none from by decide), gp_wc _ (by omega), show (7 + 2 : Nat) = 9 from rfl, f3 9 (by omega), t3.2.1, gp_lm_len (Nat.le_refl _)]
    -- the reference
    have rb3 : gp_rB 1 0 M3 b := h6.fr (m3_c 1 (by omega) (by omega) (by omega))
    obtain ⟨M4, d1, d2, d3, d4, d5⟩ := gp_chgR (M := M3) (us := us) (b := b) (h10.fr (m3_c 33 (by omega) (by omega) (by omega)) (m3_0 51 (by omega) (by omega) (by omega) (by omega) (by omega))) h8.2.1 h9 h2 rb3
    obtain ⟨M5, s1, s2, s3, s4, s5, s6⟩ := gp_setL h24 M4
    have m5c : ∀ c, c ≠ 0 → c ≠ 1 → c ≠ 4 → c ≠ 15 → c ≠ 33 → c ≠ 34 → M5.1 c = Mr.1 c := fun c e1 e2 e3 e4 e5 e6 => by rw [s3 c e2, d3 c e1 e5 e6, m3_c c e1 e3 e4]
    have m50 : ∀ i, i ≠ 2 → i ≠ 5 → i ≠ 7 → i ≠ 8 → i ≠ 9 → i ≠ 51 → M5.1 0 i = Mr.1 0 i := fun i a1 a2 a3 a4 a5 a6 => by rw [s3 0 (by omega), d4 i a6, m3_0 i a1 a2 a3 a4 a5]
    have eR : f12_line Mr = some (nI x.length, M5) := by rw [start, l3, d1, gp_eB, s1, gp_eB]
    have c4c : ∀ c, c ≠ 1 → (gz_w C3 1 1 0).1 c = C3.1 c := fun c hc => gp_wc _ hc
    have c4o : ∀ c, c ≠ 1 → c ≠ 9 → c ≠ 10 → c ≠ 131 → c < 135 ∨ 175 ≤ c → c < cu ∨ cu + 9 ≤ c → (gz_w C3 1 1 0).1 c = Mc.1 c := fun c a1 a2 a3 a4 a5 a6 => by rw [c4c c a1, f3 c a6, c2c c a2 a3 a4 a5]
    have hl4 : gp_lC 9 (gz_w C3 1 1 0) (gp_lm x x.length) := t3.fr (fun c a1 a2 => by rw [c4c c (by omega), f3 c (by omega)])
    refine ⟨_, _, pf', M5, eC, eR, cu, [], (b.1, gp_lm x x.length), (if us.length = 10 then us.drop 1 else us) ++ [b], ks, o', hR.nl hcu ?_ ?_ (fun c hc => c4o c (by omega) (by omega) (by omega) (by omega) (by omega) (by omega)) hl4 (f4.fr (fun c a1 a2 => c4c c (by omega))) (gp_xC0 _ (gp_gs _ _ _ _)) p4 p5 (p6.fr (fun c hc => by rw [c4c c (by omega), f3 c (by omega), t2.2 c (by omega) (by omega)])) (fun c hc => m5c c (by omega) (by omega) (by omega) (by omega) (by omega) (by omega)) (m50 10 (by omega) (by omega) (by omega) (by omega) (by omega) (by omega)) ?_ (gp_txR0 _ ?_) (d5.fr (s3 33 (by omega)) (by rw [s3 0 (by omega)])) ?_ (q8.fr ?_ ?_ ?_ ?_)⟩
    · rw [c4o 0 (by omega) (by omega) (by omega) (by omega) (by omega) (by omega)]; exact q6.2.1
    · rw [c4o 0 (by omega) (by omega) (by omega) (by omega) (by omega) (by omega)]; exact q7
    · refine ⟨?_, fun i hi => ?_, ?_, fun i hi => ?_⟩
      · rw [s4 0 (by omega), d3 1 (by omega) (by omega) (by omega), m3_c 1 (by omega) (by omega) (by omega)]
        exact h6.1
      · have hi : i < b.1.length := hi
        have := h2.1.1
        rw [s4 _ (by omega), d3 1 (by omega) (by omega) (by omega), m3_c 1 (by omega) (by omega) (by omega)]
        exact h6.2.1 i hi
      · rw [Nat.zero_add, s5]
        show _ = nI (gp_lm x x.length).length
        rw [gp_lm_len (Nat.le_refl _)]
      · have hi : i < (gp_lm x x.length).length := hi
        rw [gp_lm_len (Nat.le_refl _)] at hi
        rw [Nat.zero_add, s6 i hi, d3 15 (by omega) (by omega) (by omega), l4 i hi]
        show _ = nI ((gp_lm x x.length).getD i 0)
        rw [gp_lm_D (Nat.le_refl _) hi]
    · rw [s3 0 (by omega), d4 2 (by omega), m3_02]
    · intro u hu
      rcases List.mem_append.mp hu with hu | hu
      · split at hu
        · exact h9 u (List.mem_of_mem_drop hu)
        · exact h9 u hu
      · rw [List.mem_singleton.mp hu]
        exact h2
    · rw [gp_gl, f2, t2.1, p2]
    · rw [c4o 0 (by omega) (by omega) (by omega) (by omega) (by omega) (by omega)]
    · rw [s2, d2, m3_2]
    · exact m50 4 (by omega) (by omega) (by omega) (by omega) (by omega) (by omega)
end
end
section
/-! promise 8: sheet -/
theorem gp_remE (a b : Int32) : gz_rem a b = a % b := irem_eq_mod a b
theorem gp_mod8 (z : Int32) (M : gz_M) : fJ_floorMod z 8 M = some (nI (z.toBitVec.toNat % 8), M) := by
  have hr : (gz_rem z 8).toInt = z.toInt.tmod 8 := by
    rw [gp_remE, Int32.toInt_mod]
    rfl
  have hx : 0 ≤ (z ^^^ 8) ↔ 0 ≤ z.toInt := by
    rw [Int32.le_iff_toInt_le, show ((0 : Int32)).toInt = 0 by decide]
    have h1 : (z ^^^ 8).toBitVec.msb = z.toBitVec.msb := by
      rw [Int32.toBitVec_xor, BitVec.msb_xor, show (8 : Int32).toBitVec.msb = false by decide, Bool.xor_false]
    rw [BitVec.msb_eq_toInt, BitVec.msb_eq_toInt] at h1
    have h2 : ((z ^^^ 8).toBitVec.toInt < 0) ↔ (z.toBitVec.toInt < 0) := decide_eq_decide.mp h1
    have h3 : (z ^^^ 8).toInt = (z ^^^ 8).toBitVec.toInt := rfl
    have h4 : z.toInt = z.toBitVec.toInt := rfl
    omega
  have ht : z.toInt = if 2 * z.toBitVec.toNat < 4294967296 then (z.toBitVec.toNat : Int) else (z.toBitVec.toNat : Int) - 4294967296 := BitVec.toInt_eq_toNat_cond z.toBitVec
  have hu := z.toBitVec.isLt
  generalize z.toBitVec.toNat = u at ht hu
  have hm : u % 8 < 8 := Nat.mod_lt _ (by omega)
  unfold fJ_floorMod
  rw [show (!decide ((8 : Int32) = 0)) = true from by decide, gp_eC, gp_eL]
  by_cases h0 : 0 ≤ z.toInt
  · rw [if_pos (hx.mpr h0)]
    rw [Int.tmod_eq_emod_of_nonneg h0] at hr
    congr 2
    apply Int32.toInt_inj.mp
    rw [hr, nI_toInt (by omega)]
    split at ht <;> omega
  · rw [if_neg (fun h => h0 (hx.mp h))]
    have hneg : z.toInt.tmod 8 = -((-z.toInt) % 8) := by
      have := Int.neg_tmod (-z.toInt) 8
      rw [Int.neg_neg] at this
      rw [this, Int.tmod_eq_emod_of_nonneg (by omega)]
    rw [hneg] at hr
    by_cases hz : gz_rem z 8 = 0
    · rw [if_pos hz, hz]
      have h8 : (gz_rem z 8).toInt = 0 := by rw [hz]; decide
      rw [hr] at h8
      have : u % 8 = 0 := by split at ht <;> omega
      rw [this]
      rfl
    · rw [if_neg hz]
      have hz' : (gz_rem z 8).toInt ≠ 0 := fun h => hz (Int32.toInt_inj.mp (by rw [h]; decide))
      rw [hr] at hz'
      congr 2
      apply Int32.toInt_inj.mp
      rw [Int32.toInt_add, hr, nI_toInt (by omega), show ((8 : Int32)).toInt = 8 by decide, Int.bmod_eq_of_le (by omega) (by omega)]
      split at ht <;> omega
theorem gp_and7 (z : Int32) : z &&& 7 = nI (z.toBitVec.toNat % 8) := by
  apply Int32.toBitVec_inj.mp
  apply BitVec.eq_of_toNat_eq
  have h1 : (z &&& 7).toBitVec.toNat = z.toBitVec.toNat &&& 7 := by
    rw [Int32.toBitVec_and, BitVec.toNat_and]
    rfl
  have h2 : (nI (z.toBitVec.toNat % 8)).toBitVec.toNat = z.toBitVec.toNat % 8 := by
    have := Nat.mod_lt z.toBitVec.toNat (show 8 > 0 by omega)
    show (BitVec.ofNat 32 _).toNat = _
    rw [BitVec.toNat_ofNat]
    omega
  rw [h1, h2]
  exact Nat.and_two_pow_sub_one_eq_mod _ 3
def gp_sv (f st : Int32) : Nat → Int32
  | 0 => f
  | p + 1 => gp_sv f st p + st
def gp_nv (k : Nat) (v : Int32) : Int32 := if k = 0 then v.toInt8.toInt32 else if k = 1 then v.toInt16.toInt32 else v
def gp_sS (k : Nat) (f st : Int32) (p : Nat) : Nat := (gp_nv k (gp_sv f st p)).toBitVec.toNat % 8
def gp_sh (k : Nat) (f st : Int32) (N : Nat) : List Nat := (List.range N).map (gp_sS k f st)
theorem gp_sh_len (k : Nat) (f st : Int32) (N : Nat) : (gp_sh k f st N).length = N := by unfold gp_sh; simp
theorem gp_sh_D {k : Nat} {f st : Int32} {N i : Nat} (h : i < N) : (gp_sh k f st N).getD i 0 = gp_sS k f st i := by
  unfold gp_sh
  simp [List.getD, h]
theorem gp_sS_lt (k : Nat) (f st : Int32) (p : Nat) : gp_sS k f st p < 8 := Nat.mod_lt _ (by omega)
section
variable {B : Prop} {pf pf' : Nat → Bool} {M M' Mc Mr Mc' Mr' C R : gz_M} {cu cu' o o' : Nat} {x x' t l l' : List Nat} {b u : gp_Bk} {us us' : List gp_Bk} {ks ks' : Nat → Option gp_Bk} {k N : Nat} {f st : Int32}
theorem gp_narC (hk : k < 3) (v : Int32) (M : gz_M) : f11_narrowed (nI k) v M = some (gp_nv k v, M) := by
  unfold f11_narrowed gp_nv
  obtain h | h | h : k = 0 ∨ k = 1 ∨ k = 2 := by omega
  all_goals subst h; rfl
theorem gp_sh64 (hk : k < 3) (hN : N ≤ 24) (M : gz_M) : ∀ (d p n : Nat) (M1 : gz_M), p + d = N → d < n → gp_lL 9 M M1 → gp_lC 9 M1 (gp_sh k f st p) → ∃ M', gp_lL 9 M M' ∧ gp_lC 9 M' (gp_sh k f st N) ∧ f11_sheet_64 n (nI k) (nI N) st (gp_sv f st p) (nI p) M1 = gz_bd (f11_recut M') fun M2 => some (nI N, M2) := by
  intro d
  induction d with
  | zero =>
    intro p n M1 hp hn hL hC
    obtain ⟨n, rfl⟩ : ∃ q, n = q + 1 := ⟨n - 1, by omega⟩
    have : p = N := by omega
    subst this
    refine ⟨M1, hL, hC, ?_⟩
    rw [f11_sheet_64, if_pos (nI_le (Nat.le_refl _) (by omega))]
  | succ d ih =>
    intro p n M1 hp hn hL hC
    obtain ⟨n, rfl⟩ : ∃ q, n = q + 1 := ⟨n - 1, by omega⟩
    have hl := gp_sh_len k f st p
    obtain ⟨M2, e1, e2, e3⟩ := gp_insC (q := p) (s := gp_sS k f st p) hC (by omega) (gp_sS_lt _ _ _ _) (by omega)
    have ei : gp_ins (gp_sh k f st p) p (gp_sS k f st p) = gp_sh k f st (p + 1) := by
      have := gp_ins_end (gp_sh k f st p) (gp_sS k f st p)
      rw [hl] at this
      rw [this]
      unfold gp_sh
      rw [List.range_succ, List.map_append]
      rfl
    rw [ei] at e3
    rw [f11_sheet_64, if_neg (nI_ge (by omega) (by omega)), gp_narC hk, gp_eB2, gp_mod8, gp_eB2, show (7 + 2 : Nat) = 9 from rfl, show nI ((gp_nv k (gp_sv f st p)).toBitVec.toNat % 8) = nI (gp_sS k f st p) from rfl, e1, gp_eB, gp_eL, gp_eL, nI_1]
    exact ih (p + 1) n M2 (by omega) (by omega) ⟨e2.1.trans hL.1, fun c c1 c2 => (e2.2 c c1 c2).trans (hL.2 c c1 c2)⟩ e3
theorem gp_sh40 (hk : k < 4) (a1 : Int32) (M : gz_M) : ∀ (d p n : Nat) (M1 : gz_M), p + d = 24 → d < n → M1.2 = M.2 → (∀ c, c ≠ 15 → M1.1 c = M.1 c) → (∀ i, i < p → M1.1 15 i = nI (gp_sS k f st i)) → ∃ M', M'.2 = M.2 ∧ (∀ c, c ≠ 15 → M'.1 c = M.1 c) ∧ (∀ i, i < 24 → M'.1 15 i = nI (gp_sS k f st i)) ∧ f12_sheet_40 n (nI k) a1 st (gp_sv f st p) (nI p) M1 = if k = 3 then f12_sheet_108 (nI k) a1 0 M' else f12_sheet_108 (nI k) a1 a1 M' := by
  have hk3 : (nI k = (3 : Int32)) ↔ k = 3 := nI_eq (b := 3) (by omega) (by omega)
  intro d
  induction d with
  | zero =>
    intro p n M1 hp hn h2 hc hi
    obtain ⟨n, rfl⟩ : ∃ q, n = q + 1 := ⟨n - 1, by omega⟩
    have : p = 24 := by omega
    subst this
    refine ⟨M1, h2, hc, hi, ?_⟩
    rw [f12_sheet_40, if_pos (show (24 : Int32) ≤ nI 24 by decide)]
    by_cases h : k = 3
    · rw [if_pos (hk3.mpr h), if_pos h]
    · rw [if_neg (fun g => h (hk3.mp g)), if_neg h]
  | succ d ih =>
    intro p n M1 hp hn h2 hc hi
    obtain ⟨n, rfl⟩ : ∃ q, n = q + 1 := ⟨n - 1, by omega⟩
    have e70 : ∀ e, e = gp_nv k (gp_sv f st p) → f12_sheet_70 (f12_sheet_40 n) (nI k) a1 st (gp_sv f st p) (nI p) e M1 = f12_sheet_40 n (nI k) a1 st (gp_sv f st (p + 1)) (nI (p + 1)) (gz_w M1 15 p (nI (gp_sS k f st p))) := fun e he => by
      unfold f12_sheet_70
      rw [gp_ckb (show p < 24 by omega) (by omega), nI_clamp (by omega), he, gp_and7, gp_eL, gp_eL, gp_eL, nI_1]
      rfl
    have ehd : f12_sheet_40 (n + 1) (nI k) a1 st (gp_sv f st p) (nI p) M1 = f12_sheet_40 n (nI k) a1 st (gp_sv f st (p + 1)) (nI (p + 1)) (gz_w M1 15 p (nI (gp_sS k f st p))) := by
      rw [f12_sheet_40, if_neg (show ¬ (24 : Int32) ≤ nI p from nI_ge (b := 24) (by omega) (by omega))]
      obtain h | h | h | h : k = 0 ∨ k = 1 ∨ k = 2 ∨ k = 3 := by omega
      all_goals subst h
      · rw [if_pos (show nI 0 = (0 : Int32) from rfl)]
        exact e70 _ rfl
      · rw [if_neg (by decide), if_pos (by decide)]
        exact e70 _ rfl
      · rw [if_neg (by decide), if_neg (by decide)]
        exact e70 _ rfl
      · rw [if_neg (by decide), if_neg (by decide)]
        exact e70 _ rfl
    rw [ehd]
    refine ih (p + 1) n _ (by omega) (by omega) (by rw [gp_gl]; exact h2) (fun c hc' => by rw [gp_wc _ hc', hc c hc']) (fun i hi' => ?_)
    by_cases e : i = p
    · rw [e, gp_gs]
    · rw [gp_gn (by omega)]
      exact hi i (by omega)
/-- a line comes that is not noted -/
theorem gp_RI.sh (h : gp_RI B pf cu Mc Mr x b us ks o) (hC : gp_lL 9 Mc C) (hl : gp_lC 9 C l') {n : Nat} (hn : l'.length = n) (hR2 : R.2 = Mr.2) (hRc : ∀ c, c ≠ 0 → c ≠ 15 → R.1 c = Mr.1 c) (hR0 : ∀ i, i ≠ 5 → R.1 0 i = Mr.1 0 i) (hd : ∀ i, i < n → R.1 15 i = nI (l'.getD i 0)) : ∃ C' R', f11_recut C = some C' ∧ f12_setLine (nI n) R = some R' ∧ gp_R B pf C' R' := by
  have hR := h
  obtain ⟨⟨q1, q2, q3, q4, q5, q6, q7, q8⟩, h2, h3, h4, h5, h6, h7, h8, h9, h10, h11⟩ := h
  have hcu := q6.1
  have hn24 : n ≤ 24 := by rw [← hn]; exact hl.1
  obtain ⟨C', f1, f2, f3, f4⟩ := gp_recut (M := C) (t := b.1) (l := l') q1 (q2.fr (fun c c1 c2 => hC.2 c (by omega) (by omega))) hl hcu (by rw [hC.2 0 (by omega) (by omega)]; exact q6.2.1)
  obtain ⟨R', s1, s2, s3, s4, s5, s6⟩ := gp_setL hn24 R
  have cc : ∀ c, c ≠ 9 → c ≠ 10 → c < cu ∨ cu + 9 ≤ c → C'.1 c = Mc.1 c := fun c a1 a2 a3 => by rw [f3 c a3, hC.2 c a1 a2]
  have rc : ∀ c, c ≠ 0 → c ≠ 1 → c ≠ 15 → R'.1 c = Mr.1 c := fun c a1 a2 a3 => by rw [s3 c a2, hRc c a1 a3]
  have r0 : ∀ i, i ≠ 5 → R'.1 0 i = Mr.1 0 i := fun i hi => by rw [s3 0 (by omega), hR0 i hi]
  refine ⟨C', R', f1, s1, cu, x, (b.1, l'), us, ks, o, hR.nl hcu (by rw [cc 0 (by omega) (by omega) (by omega)]; exact q6.2.1) (by rw [cc 0 (by omega) (by omega) (by omega)]; exact q7) (fun c hc => cc c (by omega) (by omega) (by omega)) (hl.fr (fun c a1 a2 => f3 c (by omega))) f4 (h3.fr (cc 1 (by omega) (by omega) (by omega)) (cc 2 (by omega) (by omega) (by omega))) h7 (fun _ _ _ => rfl) (h8.fr (fun c hc => cc c (by omega) (by omega) (by omega))) (fun c hc => rc c (by omega) (by omega) (by omega)) (r0 10 (by omega)) ?_ (h4.fr (rc 2 (by omega) (by omega) (by omega)) (r0 2 (by omega))) (h10.fr (rc 33 (by omega) (by omega) (by omega)) (r0 51 (by omega))) h9 (q8.fr (by rw [f2, hC.1]) (by rw [cc 0 (by omega) (by omega) (by omega)]) (by rw [s2, hR2]) (r0 4 (by omega)))⟩
  refine ⟨?_, fun i hi => ?_, ?_, fun i hi => ?_⟩
  · rw [s4 0 (by omega), hRc 1 (by omega) (by omega)]
    exact h6.1
  · have hi : i < b.1.length := hi
    have := h2.1.1
    rw [s4 _ (by omega), hRc 1 (by omega) (by omega)]
    exact h6.2.1 i hi
  · rw [Nat.zero_add, s5]
    show _ = nI l'.length
    rw [hn]
  · have hi : i < l'.length := hi
    rw [Nat.zero_add, s6 i (by omega)]
    exact hd i (by omega)
theorem gp_a8 (h : gp_RI B pf cu Mc Mr x b us ks o) (a a1 f st : Int32) : ∃ v Mc' Mr', f11_sheet a a1 f st Mc = some (v, Mc') ∧ f12_sheet a a1 f st Mr = some (v, Mr') ∧ gp_R B pf Mc' Mr' := by
  have hR := h
  obtain ⟨⟨q1, q2, q3, q4, q5, q6, q7, q8⟩, h2, h3, h4, h5, h6, h7, h8, h9, h10, h11⟩ := h
  have no : ∀ v, f11_sheet a a1 f st Mc = some (v, Mc) → f12_sheet a a1 f st Mr = some (v, gz_w Mr 0 5 0) → ∃ v Mc' Mr', f11_sheet a a1 f st Mc = some (v, Mc') ∧ f12_sheet a a1 f st Mr = some (v, Mr') ∧ gp_R B pf Mc' Mr' := fun v e1 e2 => ⟨v, Mc, gz_w Mr 0 5 0, e1, e2, cu, x, b, us, ks, o, hR.ans gp_qC.refl (gp_thr 0).1 (q8.fr rfl rfl rfl (gp_gn (by omega)))⟩
  have e3 : (3 : Int32) = nI 4 - 1 := by decide
  rcases pk_ix a (n := 4) (by omega) with ha | ha | ⟨k, hk, rfl⟩
  · refine no (-1) ?_ ?_
    · unfold f11_sheet; rw [if_pos ha]
    · unfold f12_sheet; rw [gp_eL, gp_in0 _ _ ha, gp_eB2, if_pos rfl]
  · have h0 := gp_neg_of (by omega) ha
    refine no (-1) ?_ ?_
    · unfold f11_sheet
      rw [if_neg h0, if_pos]
      apply Int32.lt_iff_toInt_lt.mpr
      have := gp_tge (by omega) ha
      rw [show ((3 : Int32)).toInt = 3 by decide]
      omega
    · unfold f12_sheet; rw [gp_eL, e3, gp_in0b _ (by omega) h0 ha, gp_eB2, if_pos rfl]
  · have k0 : ¬ nI k < 0 := nI_pos (by omega)
    have k3 : ¬ (3 : Int32) < nI k := nI_nlt (a := 3) (by omega) (by omega)
    have hin : f12_in (nI k) 0 3 (gz_w Mr 0 5 0) = some (1, gz_w Mr 0 5 0) := by rw [e3]; exact gp_in1 _ (by omega) hk
    have hk3 : (nI k = (3 : Int32)) ↔ k = 3 := nI_eq (b := 3) (by omega) (by omega)
    by_cases h24 : a1 ≤ 24
    · have lp := gp_sh40 (k := k) (f := f) (st := st) hk a1 (gz_w Mr 0 5 0) 24 0 gz_FU (gz_w Mr 0 5 0) (by omega) (by unfold gz_FU; omega) rfl (fun _ _ => rfl) (fun i hi => absurd hi (by omega))
      obtain ⟨R, r1, r2, r3, r4⟩ := lp
      have Rc : ∀ c, c ≠ 0 → c ≠ 15 → R.1 c = Mr.1 c := fun c c1 c2 => by rw [r2 c c2, gp_wc _ c1]
      have R0 : ∀ i, i ≠ 5 → R.1 0 i = Mr.1 0 i := fun i hi => by rw [r2 0 (by omega), gp_gn (by omega)]
      by_cases hk33 : k = 3
      · subst hk33
        obtain ⟨C', R', f1, f2, f3⟩ := hR.sh (C := gz_w Mc 9 1 0) (l' := []) (R := R) (n := 0) ⟨rfl, fun c c1 c2 => gp_wc _ c1⟩ ⟨by simp, gp_gs _ _ _ _, fun i hi => absurd hi (by simp)⟩ rfl (by rw [r1]; rfl) Rc R0 (fun i hi => absurd hi (by omega))
        refine ⟨-3, C', R', ?_, ?_, f3⟩
        · unfold f11_sheet
          rw [if_neg k0, if_neg k3, if_pos h24, if_pos (show nI 3 = (3 : Int32) by decide), show (7 + 2 : Nat) = 9 from rfl, gp_eL, f1, gp_eB]
        · unfold f12_sheet
          rw [gp_eL, hin, gp_eB2, if_neg (by decide), if_pos h24, if_pos (show (3 : Int32) ≤ nI 3 by decide), show f12_sheet_40 gz_FU (nI 3) a1 st f 0 (gz_w Mr 0 5 0) = _ from r4, if_pos rfl]
          unfold f12_sheet_108
          rw [show f12_setLine 0 R = some R' from f2, gp_eB, if_pos (show nI 3 = (3 : Int32) by decide)]
      · have hkn : ¬ nI k = (3 : Int32) := fun g => hk33 (hk3.mp g)
        have hkl : ¬ (3 : Int32) ≤ nI k := nI_ge (b := 3) (by omega) (by omega)
        by_cases hpos : 0 ≤ a1
        · obtain ⟨N, hN, rfl⟩ : ∃ N : Nat, N ≤ 24 ∧ a1 = nI N := by
            rcases pk_ix a1 (n := 25) (by omega) with g | g | ⟨j, g1, g2⟩
            · exfalso
              have g1 := gp_tneg g
              have g2 := Int32.le_iff_toInt_le.mp hpos
              rw [show ((0 : Int32)).toInt = 0 by decide] at g2
              omega
            · exfalso
              have g1 := gp_tge (by omega) g
              have g2 := Int32.le_iff_toInt_le.mp h24
              rw [show ((24 : Int32)).toInt = 24 by decide] at g2
              omega
            · exact ⟨j, by omega, g2⟩
          obtain ⟨C, c1, c2, c3⟩ := gp_sh64 (k := k) (N := N) (f := f) (st := st) (by omega) hN (gz_w Mc 9 1 0) N 0 gz_FU (gz_w Mc 9 1 0) (by omega) (by unfold gz_FU; omega) ⟨rfl, fun _ _ _ => rfl⟩ ⟨by simp [gp_sh], gp_gs _ _ _ _, fun i hi => absurd hi (by simp [gp_sh])⟩
          obtain ⟨C', R', f1, f2, f3⟩ := hR.sh (C := C) (l' := gp_sh k f st N) (R := R) (n := N) ⟨by rw [c1.1]; rfl, fun c e1 e2 => by rw [c1.2 c e1 e2, gp_wc _ e1]⟩ c2 (gp_sh_len _ _ _ _) (by rw [r1]; rfl) Rc R0 (fun i hi => by rw [r3 i (by omega), gp_sh_D hi])
          refine ⟨nI N, C', R', ?_, ?_, f3⟩
          · unfold f11_sheet
            rw [if_neg k0, if_neg k3, if_pos h24, if_neg hkn, if_pos hpos, show (7 + 2 : Nat) = 9 from rfl, gp_eL, show f11_sheet_64 gz_FU (nI k) (nI N) st f 0 (gz_w Mc 9 1 0) = _ from c3, f1, gp_eB]
          · unfold f12_sheet
            rw [gp_eL, hin, gp_eB2, if_neg (by decide), if_pos h24, if_neg hkl, if_pos hpos, show f12_sheet_40 gz_FU (nI k) (nI N) st f 0 (gz_w Mr 0 5 0) = _ from r4, if_neg hk33]
            unfold f12_sheet_108
            rw [f2, gp_eB, if_neg hkn]
        · refine no (-2) ?_ ?_
          · unfold f11_sheet; rw [if_neg k0, if_neg k3, if_pos h24, if_neg hkn, if_neg hpos]
          · unfold f12_sheet; rw [gp_eL, hin, gp_eB2, if_neg (by decide), if_pos h24, if_neg hkl, if_neg hpos]
    · refine no (-1) ?_ ?_
      · unfold f11_sheet; rw [if_neg k0, if_neg k3, if_neg h24]
      · unfold f12_sheet; rw [gp_eL, hin, gp_eB2, if_neg (by decide), if_neg h24]
end
end
section
/-! promise 15: like -/
def gp_alk (ts us : List gp_K) : Nat → Nat → Nat
  | 0, p => p
  | n + 1, p => if p < ts.length ∧ p < us.length ∧ (ts.getD p gp_k0).1 = (us.getD p gp_k0).1 ∧ (ts.getD p gp_k0).2.2.1 = (us.getD p gp_k0).2.2.1 then gp_alk ts us n (p + 1) else p
theorem gp_oInj {a b : Option Nat} (ha : ∀ j, a = some j → j < 2 ^ 31) (hb : ∀ j, b = some j → j < 2 ^ 31) : (gp_o a = gp_o b) ↔ a = b := by
  cases a with
  | none =>
    cases b with
    | none => exact ⟨fun _ => rfl, fun _ => rfl⟩
    | some j => exact ⟨fun h => (by have h : gp_no = nI j := h; rw [gp_ne2 (hb j rfl)] at h; exact h.elim), fun h => nomatch h⟩
  | some i =>
    cases b with
    | none => exact ⟨fun h => (by have h : nI i = gp_no := h; rw [gp_ne1 (ha i rfl)] at h; exact h.elim), fun h => nomatch h⟩
    | some j => exact (nI_eq (ha i rfl) (hb j rfl)).trans ⟨fun h => by rw [h], fun h => Option.some.inj h⟩
/-- tokens laid aside by the reference -/
def gp_old (M : gz_M) (ts : List gp_K) : Prop := M.1 0 39 = nI ts.length ∧ ∃ N : gz_M, gp_kR N ts ∧ ∀ y, y < 300 → M.1 23 y = N.1 17 y
section
variable {B : Prop} {pf pf' : Nat → Bool} {M M' Mc Mr Mc' Mr' C R : gz_M} {cu cu' o o' k k0 n n' : Nat} {x x' t l l' : List Nat} {b u : gp_Bk} {us us' : List gp_Bk} {ks ks' : Nat → Option gp_Bk} {ts ss : List gp_K} {T T' : gp_T}
/-- a question that lays rules again -/
theorem gp_RI.ans2 (h : gp_RI B pf cu Mc Mr x b us ks o) (e1 : gp_qC cu Mc Mc') (rc : ∀ c, c = 1 ∨ c = 2 ∨ c = 21 ∨ c = 22 ∨ c = 33 → Mr'.1 c = Mr.1 c) (r2 : Mr'.1 0 2 = Mr.1 0 2) (r51 : Mr'.1 0 51 = Mr.1 0 51) (ht : gp_tR Mr' (gp_tab b.1)) (hr : gp_rw B Mc' Mr') : gp_RI B pf cu Mc' Mr' x b us ks o := by
  obtain ⟨⟨q1, q2, q3, q4, q5, q6, q7, q8⟩, h2, h3, h4, h5, h6, h7, h8, h9, h10, h11⟩ := h
  have hcu := q6.1
  refine ⟨⟨q1, q2.fr (fun c c1 c2 => e1.1 c (by omega)), ht, q4.fr (fun c c1 c2 => e1.1 c (by omega)), q5.fr (rc 1 (by omega)), ⟨hcu, by rw [e1.2.1]; exact q6.2.1, q6.2.2.1.fr (fun c c1 c2 => e1.1 c (by omega)), q6.2.2.2⟩, by rw [e1.2.2]; exact q7, hr⟩, h2, h3.fr (e1.1 1 (by omega)) (e1.1 2 (by omega)), h4.fr (rc 2 (by omega)) r2, ?_, h6.fr (rc 1 (by omega)), h7, h8.fr (fun c hc => e1.1 c (by omega)), h9, h10.fr (rc 33 (by omega)) r51, h11.fr (fun _ _ _ => rfl) (fun c hc => e1.1 c (by omega)) (fun c hc => rc c (by omega))⟩
  obtain ⟨a1, a2, a3⟩ := h5
  exact ⟨a1, by rw [e1.1 7 (by omega)]; exact a2, fun i hi => by rw [e1.1 8 (by omega)]; exact a3 i hi⟩
theorem gp_layOldE (hk : gp_kR M ts) : ∃ M', f12_layOld M = some M' ∧ M'.2 = M.2 ∧ (∀ c, c ≠ 0 → c ≠ 23 → M'.1 c = M.1 c) ∧ (∀ i, i ≠ 39 → M'.1 0 i = M.1 0 i) ∧ gp_old M' ts := by
  have e := gp_fl_l (M := M) (c := 23) (o := 0) (N := 300) (v := fun i => M.1 17 i) (fun n a M => f12_layOld_2 n a M) (fun M1 => some (gz_w M1 0 39 (nI ts.length))) (fun n => by
    show f12_layOld_2 (n + 1) _ _ = _
    rw [f12_layOld_2, if_pos (show (300 : Int32) ≤ nI 300 by decide), gp_fl_c (by omega), hk.1, gp_eL]) (fun n i hi => by
    show f12_layOld_2 (n + 1) _ _ = f12_layOld_2 n _ _
    rw [f12_layOld_2, if_neg (show ¬ (300 : Int32) ≤ nI i from nI_ge (b := 300) hi (by omega)), gp_ckb (show i < 300 by omega) (by omega), gp_ckb (show i < 300 by omega) (by omega), nI_clamp (by omega), gp_fl_c (by omega), gp_eL, gp_eL, nI_1, Nat.zero_add]) gz_FU (by unfold gz_FU; omega)
  unfold f12_layOld
  refine ⟨_, e, rfl, fun c c1 c2 => by rw [gp_wc _ c1, gp_fl_c c2], fun i hi => by rw [gp_gn (by omega), gp_fl_c (by omega)], gp_gs _ _ _ _, M, hk, fun y hy => ?_⟩
  have := gp_fl_i (M := M) (c := 23) (o := 0) (N := 300) (v := fun i => M.1 17 i) hy
  rw [Nat.zero_add] at this
  rw [gp_gn (by omega), this]
theorem gp_old.fr (h : gp_old M ts) (e : M'.1 23 = M.1 23) (e0 : M'.1 0 39 = M.1 0 39) : gp_old M' ts := by
  obtain ⟨h1, N, h2, h3⟩ := h
  exact ⟨by rw [e0]; exact h1, N, h2, fun y hy => by rw [e]; exact h3 y hy⟩
theorem gp_alikeC (h : gp_cC k M ts) (h' : gp_cC k0 M ss) (hl : ts.length ≤ 24) (hl' : ss.length ≤ 24) (hw : gp_wT T) (hok : ∀ t, t ∈ ts → gp_tkOk T n t) (hw' : gp_wT T') (hok' : ∀ t, t ∈ ss → gp_tkOk T' n t) (hn : n ≤ 24) : f2_alike k k0 M = some (nI (gp_alk ts ss 25 0), M) := by
  have main : ∀ d p m, p + d = 25 → p ≤ ts.length → p ≤ ss.length → d + 1 < m → f2_alike_4 k k0 m (nI p) (nI p) M = some (nI (gp_alk ts ss d p), M) := by
    intro d
    induction d with
    | zero => intro p m hp h1 h2 hm; omega
    | succ d ih =>
      intro p m hp h1 h2 hm
      obtain ⟨m, rfl⟩ : ∃ q, m = q + 2 := ⟨m - 2, by omega⟩
      rw [f2_alike_4, h.1, gp_alk]
      by_cases c1 : ts.length ≤ p
      · rw [if_pos (nI_le c1 (by omega)), if_neg (fun g => by omega)]
      · rw [if_neg (nI_ge (by omega) (by omega)), h'.1]
        by_cases c2 : ss.length ≤ p
        · rw [if_pos (nI_le c2 (by omega)), if_neg (fun g => by omega)]
        · have stop : f2_alike_4 k k0 (m + 1) (nI p + 0) (nI p + 1) M = some (nI p, M) := by
            rw [gp_add0, nI_1, f2_alike_4]
            split
            · rfl
            · split
              · rfl
              · rw [if_neg (show ¬ nI (p + 1) = nI p from fun g => by have := (nI_eq (by omega) (by omega)).mp g; omega)]
          have v := h.2.2 p (by omega)
          have v' := h'.2.2 p (by omega)
          have o1 := hok _ (gp_getD_mem (d := gp_k0) (show p < ts.length by omega))
          have o2 := hok' _ (gp_getD_mem (d := gp_k0) (show p < ss.length by omega))
          have oI := gp_oInj (gp_rS hw hok (show p < ts.length by omega)) (gp_rS hw' hok' (show p < ss.length by omega))
          have b1 := o1.2.1
          have b2 := o1.2.2.1
          have b3 := o2.2.1
          have b4 := o2.2.2.1
          rw [if_neg (nI_ge (by omega) (by omega)), if_pos rfl, gp_ckb (show p < 24 by omega) (by omega), gp_ckb (show p < 24 by omega) (by omega), nI_clamp (by omega), v.1, v'.1]
          by_cases c3 : (ts.getD p gp_k0).1 = (ss.getD p gp_k0).1
          · rw [if_pos (oI.mpr c3), gp_ckb (show p < 24 by omega) (by omega), gp_ckb (show p < 24 by omega) (by omega), v.2.2.1, v'.2.2.1]
            by_cases c4 : (ts.getD p gp_k0).2.2.1 = (ss.getD p gp_k0).2.2.1
            · rw [if_pos (by rw [c4]), if_pos ⟨by omega, by omega, c3, c4⟩, gp_eL, gp_eL, nI_1]
              exact ih (p + 1) (m + 1) (by omega) (by omega) (by omega) (by omega)
            · rw [if_neg (fun g => c4 ((nI_eq (by omega) (by omega)).mp g)), if_neg (fun g => c4 g.2.2.2), gp_eL, gp_eL]
              exact stop
          · rw [if_neg (fun g => c3 (oI.mp g)), if_neg (fun g => c3 g.2.2.1), gp_eL, gp_eL]
            exact stop
  unfold f2_alike
  exact main 25 0 gz_FU (by omega) (by omega) (by omega) (by unfold gz_FU; omega)
theorem gp_alikeR (h : gp_old M ts) (h' : gp_kR M ss) (hl : ts.length ≤ 24) (hl' : ss.length ≤ 24) (hw : gp_wT T) (hok : ∀ t, t ∈ ts → gp_tkOk T n t) (hw' : gp_wT T') (hok' : ∀ t, t ∈ ss → gp_tkOk T' n t) (hn : n ≤ 24) : f12_like_83 gz_FU 0 M = f12_like_145 (nI (gp_alk ts ss 25 0)) M := by
  obtain ⟨h39, N, hN, h23⟩ := h
  have main : ∀ d p m, p + d = 25 → p ≤ ts.length → p ≤ ss.length → d < m → f12_like_83 m (nI p) M = f12_like_145 (nI (gp_alk ts ss d p)) M := by
    intro d
    induction d with
    | zero => intro p m hp h1 h2 hm; omega
    | succ d ih =>
      intro p m hp h1 h2 hm
      obtain ⟨m, rfl⟩ : ∃ q, m = q + 1 := ⟨m - 1, by omega⟩
      rw [f12_like_83, h39, gp_alk]
      by_cases c1 : ts.length ≤ p
      · rw [if_pos (nI_le c1 (by omega)), if_neg (fun g => by omega)]
      · rw [if_neg (nI_ge (by omega) (by omega)), h'.1]
        by_cases c2 : ss.length ≤ p
        · rw [if_pos (nI_le c2 (by omega)), if_neg (fun g => by omega)]
        · have v := hN.2.2 p (by omega)
          have v' := gp_ofK h' hl' (show p < ss.length by omega)
          have o1 := hok _ (gp_getD_mem (d := gp_k0) (show p < ts.length by omega))
          have o2 := hok' _ (gp_getD_mem (d := gp_k0) (show p < ss.length by omega))
          have oI := gp_oInj (gp_rS hw hok (show p < ts.length by omega)) (gp_rS hw' hok' (show p < ss.length by omega))
          have b1 := o1.2.1
          have b2 := o1.2.2.1
          have b3 := o2.2.1
          have b4 := o2.2.2.1
          have m0 : (12 : Int32) * nI p + 0 = nI (12 * p) := by rw [show (12 : Int32) = nI 12 from rfl, pk_mul, gp_add0]
          have m2 : (12 : Int32) * nI p + 2 = nI (12 * p + 2) := by rw [show (12 : Int32) = nI 12 from rfl, pk_mul, show (2 : Int32) = nI 2 from rfl, nI_add]
          rw [if_neg (nI_ge (by omega) (by omega)), m0, m2, gp_ckb (show 12 * p < 300 by omega) (by omega), nI_clamp (by omega), nI_clamp (by omega), v'.1, gp_eB2, h23 _ (by omega), v.1]
          by_cases c3 : (ts.getD p gp_k0).1 = (ss.getD p gp_k0).1
          · rw [if_pos (oI.mpr c3), gp_ckb (show 12 * p + 2 < 300 by omega) (by omega), v'.2.2.1, gp_eB2, h23 _ (by omega), v.2.2.1]
            by_cases c4 : (ts.getD p gp_k0).2.2.1 = (ss.getD p gp_k0).2.2.1
            · rw [if_pos (by rw [c4]), if_pos ⟨by omega, by omega, c3, c4⟩, gp_eL, nI_1]
              exact ih (p + 1) m (by omega) (by omega) (by omega) (by omega)
            · rw [if_neg (fun g => c4 ((nI_eq (by omega) (by omega)).mp g)), if_neg (fun g => c4 g.2.2.2)]
          · rw [if_neg (fun g => c3 (oI.mp g)), if_neg (fun g => c3 g.2.2.1)]
  exact main 25 0 gz_FU (by omega) (by omega) (by omega) (by unfold gz_FU; omega)
/-- two numbers told -/
theorem gp_tell2C (M : gz_M) (p q : Int64) : ∃ M1 M2, f11_tell p (gz_w M 0 15 0) = some M1 ∧ gp_fC M M1 ∧ f11_tell q M1 = some M2 ∧ gp_fC M M2 ∧ gp_wC M2 [p, q] := by
  obtain ⟨a1, a2⟩ := gp_wC0 M
  obtain ⟨M1, b1, b2, b3⟩ := gp_tellC p a2 (by simp)
  obtain ⟨M2, c1, c2, c3⟩ := gp_tellC q b3 (by simp)
  exact ⟨M1, M2, b1, a1.trans b2, c1, (a1.trans b2).trans c2, c3⟩
theorem gp_tell2R (M : gz_M) (p q : Int64) : ∃ M1 M2, f12_tell p (gz_w M 0 4 0) = some M1 ∧ gp_fR M M1 ∧ f12_tell q M1 = some M2 ∧ gp_fR M M2 ∧ gp_wR M2 [p, q] := by
  obtain ⟨a1, a2⟩ := gp_wR0 M
  obtain ⟨M1, b1, b2, b3⟩ := gp_tellR p a2 (by simp)
  obtain ⟨M2, c1, c2, c3⟩ := gp_tellR q b3 (by simp)
  exact ⟨M1, M2, b1, a1.trans b2, c1, (a1.trans b2).trans c2, c3⟩
theorem gp_a15 (h : gp_RI B pf cu Mc Mr x b us ks o) (a : Int32) : ∃ v Mc' Mr', f11_like pf a Mc = some (v, Mc') ∧ f12_like a Mr = some (v, Mr') ∧ gp_R B pf Mc' Mr' := by
  have hR := h
  obtain ⟨⟨q1, q2, q3, q4, q5, q6, q7, q8⟩, h2, h3, h4, h5, h6, h7, h8, h9, h10, h11⟩ := h
  have hQ := hR.1
  have hcu := q6.1
  have no : ∀ v, f11_like pf a Mc = some (v, Mc) → f12_like a Mr = some (v, gz_w Mr 0 5 0) → ∃ v Mc' Mr', f11_like pf a Mc = some (v, Mc') ∧ f12_like a Mr = some (v, Mr') ∧ gp_R B pf Mc' Mr' := fun v e1 e2 => ⟨v, Mc, gz_w Mr 0 5 0, e1, e2, cu, x, b, us, ks, o, hR.ans gp_qC.refl (gp_thr 0).1 (q8.fr rfl rfl rfl (gp_gn (by omega)))⟩
  rcases gp_in2 a (gz_w Mr 0 5 0) with ⟨e1, e2⟩ | ⟨e0, e1, e2⟩ | ⟨j, hj, rfl, e2⟩
  · refine no (-1) ?_ ?_
    · unfold f11_like; rw [if_pos e1]
    · unfold f12_like; rw [gp_eL, e2, gp_eB2, if_pos rfl]
  · refine no (-1) ?_ ?_
    · unfold f11_like; rw [if_neg e0, if_neg e1]
    · unfold f12_like; rw [gp_eL, e2, gp_eB2, if_pos rfl]
  · have hk := h11 j hj
    have e0 : ¬ nI j < 0 := nI_pos (by omega)
    have e1 : nI j < (2 : Int32) := nI_lt (b := 2) hj (by omega)
    cases hks : ks j with
    | none =>
      rw [hks] at hk
      refine no (-2) ?_ ?_
      · unfold f11_like
        rw [if_neg e0, if_pos e1, gp_ckb hj (by omega), nI_clamp (by omega), if_neg (by rw [h7 (10 + j) (by omega), hk.1]; decide)]
      · unfold f12_like
        rw [gp_eL, e2, gp_eB2, if_neg (by decide), gp_ckb hj (by omega), nI_clamp (by omega), gp_wc _ (by omega), hk.2, if_pos rfl]
    | some u =>
      rw [hks] at hk
      obtain ⟨k1, k2, k3, k4, k5⟩ := hk
      have hwu := gp_tab_w k1.2.1 k1.1
      have hok1 := gp_cut_ok (l := b.2) q1
      have hok2 := gp_cut_ok (l := b.2) hwu
      have hl24 : b.2.length ≤ 24 := h2.2.2.1
      have hc1 : (gp_cut (gp_tab b.1) b.2).length ≤ 24 := gp_cut_len
      have hc2 : (gp_cut (gp_tab u.1) b.2).length ≤ 24 := gp_cut_len
      -- the component
      obtain ⟨C1, b1, b2, b3⟩ := gp_bldC (M := Mc) (k := 39) (k1 := 135 + 4 * (10 + j)) ⟨by omega, fun c hc => by omega⟩ k1.1 k3.1
      have c1c : ∀ c, c ≠ 4 → c ≠ 5 → c ≠ 6 → c < 39 ∨ 57 < c → C1.1 c = Mc.1 c := b2.2
      obtain ⟨C2, m1, m2, m3, m4⟩ := gp_make (M := C1) (k := 90 - cu) (k0 := 39) (k1 := 9) (l := b.2) hwu (by omega) (by omega) b3 (q4.fr (fun c e1 e2 => c1c c (by omega) (by omega) (by omega) (by omega)))
      have c2c : ∀ c, c ≠ 4 → c ≠ 5 → c ≠ 6 → c < 39 ∨ 57 < c → c < 90 - cu ∨ 90 - cu + 9 ≤ c → C2.1 c = Mc.1 c := fun c e1 e2 e3 e4 e5 => by rw [m3 c e5, c1c c e1 e2 e3 e4]
      obtain ⟨C3, C4, t1, t2, t3, t4, t5⟩ := gp_tell2C C2 (nI (gp_cut (gp_tab u.1) b.2).length).toInt64 (nI (gp_stk (gp_cut (gp_tab u.1) b.2))).toInt64
      have s8 : ∀ N, gp_fC C2 N → gz_cIx (N.1 0 8) = 90 - cu := fun N hN => by rw [hN.2 8 (by omega), c2c 0 (by omega) (by omega) (by omega) (by omega) (by omega)]; exact q7
      have s5 : ∀ N, gp_fC C2 N → gz_cIx (N.1 0 5) = cu := fun N hN => by rw [hN.2 5 (by omega), c2c 0 (by omega) (by omega) (by omega) (by omega) (by omega)]; exact q6.2.1
      have cut2 : ∀ N, gp_fC C2 N → gp_cC (90 - cu) N (gp_cut (gp_tab u.1) b.2) := fun N hN => m4.fr (fun c e1 e2 => hN.1 c (by omega))
      have cut1 : ∀ N, gp_fC C2 N → gp_cC cu N (gp_cut (gp_tab b.1) b.2) := fun N hN => q6.2.2.1.fr (fun c e1 e2 => by rw [hN.1 c (by omega), c2c c (by omega) (by omega) (by omega) (by omega) (by omega)])
      have f0 : gp_fC C2 (gz_w C2 0 15 0) := (gp_wC0 C2).1
      have eC : f11_like pf (nI j) Mc = some (nI (gp_alk (gp_cut (gp_tab b.1) b.2) (gp_cut (gp_tab u.1) b.2) 25 0), C4) := by
        unfold f11_like
        rw [if_neg e0, if_pos e1, gp_ckb hj (by omega), nI_clamp (by omega), if_pos (by rw [h7 (10 + j) (by omega), k2]), k2, gp_eC, b1, gp_eB, c1c 0 (by omega) (by omega) (by omega) (by omega), q7, show (7 + 2 : Nat) = 9 from rfl, m1, gp_eB, gp_eL, s8 _ f0, (cut2 _ f0).1, t1, gp_eB, s8 _ t2, gp_stuckC hwu hok2 (cut2 _ t2) hc2, gp_eB2, t3, gp_eB, s8 _ t4, s5 _ t4, gp_alikeC (cut1 _ t4) (cut2 _ t4) hc1 hc2 q1 hok1 hwu hok2 hl24, gp_eB2]
      -- the reference
      obtain ⟨M1, r1, r2, r3, r4, r5, r6, r7, r8, r9⟩ := gp_cutT hQ
      obtain ⟨M2, o1, o2, o3, o4, o5⟩ := gp_layOldE r3
      have m2c : ∀ c, c = 1 ∨ c = 2 ∨ c = 21 ∨ c = 22 ∨ c = 33 → M2.1 c = Mr.1 c := fun c hc => by rw [o3 c (by omega) (by omega), r2.1 c (by omega)]
      have lp := gp_fl_l (M := M2) (c := 34) (o := 0) (N := 106) (v := fun i => M2.1 21 (106 * j + i)) (fun n a M => f12_like_39 n (nI j) a M) (fun M1 => gz_bd (f12_layRules 34 M1) fun M2 => gz_bd (f12_cutAll 0 M2) fun M4 => f12_like_83 gz_FU 0 M4) (fun n => by
        show f12_like_39 (n + 1) _ _ _ = _
        rw [f12_like_39, if_pos (show (106 : Int32) ≤ nI 106 by decide)]) (fun n i hi => by
        show f12_like_39 (n + 1) _ _ _ = f12_like_39 n _ _ _
        rw [f12_like_39, if_neg (show ¬ (106 : Int32) ≤ nI i from nI_ge (b := 106) hi (by omega)), show (106 : Int32) = nI 106 from rfl, pk_mul, nI_add, gp_ckb (show 106 * j + i < 212 by omega) (by omega), gp_ckb (show i < 106 by omega) (by omega), nI_clamp (by omega), nI_clamp (by omega), gp_fl_c (show (21 : Nat) ≠ 34 by omega), gp_eL, gp_eL, nI_1, Nat.zero_add]) gz_FU (by unfold gz_FU; omega)
      obtain ⟨M3, hM3⟩ : ∃ M3, M3 = gp_fl M2 34 0 106 (fun i => M2.1 21 (106 * j + i)) := ⟨_, rfl⟩
      rw [← hM3] at lp
      have m3c : ∀ c, c ≠ 34 → M3.1 c = M2.1 c := fun c hc => by rw [hM3, gp_fl_c hc]
      have rb3 : gp_rB 34 0 M3 u := by
        have k5' : gp_rB 21 (106 * j) M2 u := k5.fr (m2c 21 (by omega))
        refine k5'.cp k1.1.1 k1.2.2.1 (fun i hi => ?_)
        rw [hM3, gp_fl_i hi]
      obtain ⟨M4, l1, l2, l3⟩ := gp_lay (M := M3) (k0 := 34) ⟨by omega, by omega⟩ k1.1 k1.2.1 rb3.1 (fun i hi => by have := rb3.2.1 i hi; rw [Nat.zero_add] at this; exact this)
      have m4c : ∀ c, c = 1 ∨ c = 2 ∨ c = 21 ∨ c = 22 ∨ c = 33 → M4.1 c = Mr.1 c := fun c hc => by rw [l2.2.1 c (by omega) (by omega), m3c c (by omega), m2c c hc]
      obtain ⟨M5, d1, d2, d3, d4, d5, d6⟩ := gp_cutAll0 (M := M4) (l := b.2) hwu l3 (q5.fr (m4c 1 (by omega)))
      have ho5 : gp_old M5 (gp_cut (gp_tab b.1) b.2) := o5.fr (by rw [d2.2.1 23 (by omega) (by omega), l2.2.1 23 (by omega) (by omega), m3c 23 (by omega)]) (by rw [d2.2.2 39 (by omega) (by omega) (by omega) (by omega) (by omega), l2.2.2 39 (by omega), m3c 0 (by omega)])
      have eA := gp_alikeR ho5 d4 hc1 hc2 q1 hok1 hwu hok2 hl24
      obtain ⟨M6, M7, g1, g2, g3, g4, g5⟩ := gp_tell2R M5 (nI (gp_cut (gp_tab u.1) b.2).length).toInt64 (nI (gp_stk (gp_cut (gp_tab u.1) b.2))).toInt64
      have m7c : ∀ c, c = 1 ∨ c = 2 ∨ c = 21 ∨ c = 22 ∨ c = 33 → M7.1 c = Mr.1 c := fun c hc => by rw [g4.1 c (by omega), d2.2.1 c (by omega) (by omega), m4c c hc]
      have rb7 : gp_rB 1 0 M7 b := h6.fr (m7c 1 (by omega))
      obtain ⟨M8, n1, n2, n3⟩ := gp_lay (M := M7) (k0 := 1) ⟨by omega, by omega⟩ h2.1 h2.2.1 rb7.1 (fun i hi => by have := rb7.2.1 i hi; rw [Nat.zero_add] at this; exact this)
      have g31 : (gz_w M5 0 4 0).1 0 31 = nI (gp_cut (gp_tab u.1) b.2).length := by rw [gp_gn (by omega)]; exact d4.1
      have eR : f12_like (nI j) Mr = some (nI (gp_alk (gp_cut (gp_tab b.1) b.2) (gp_cut (gp_tab u.1) b.2) 25 0), M8) := by
        unfold f12_like
        rw [gp_eL, e2, gp_eB2, if_neg (by decide), gp_ckb hj (by omega), nI_clamp (by omega), gp_wc _ (by omega), k4, if_neg (by decide), r1, gp_eB, o1, gp_eB, show f12_like_39 gz_FU (nI j) 0 M2 = _ from lp, l1, gp_eB, d1, gp_eB, eA]
        unfold f12_like_145
        rw [gp_eL, g31, g1, gp_eB, gp_stuckR hwu hok2 (d4.fr g2) hc2, gp_eB2, g3, gp_eB, n1, gp_eB]
      have m80 : ∀ i, i = 2 ∨ i = 51 → M8.1 0 i = Mr.1 0 i := fun i hi => by
        rw [n2.2.2 i (by omega), g4.2 i (by omega), d2.2.2 i (by omega) (by omega) (by omega) (by omega) (by omega), l2.2.2 i (by omega), m3c 0 (by omega), o4 i (by omega)]
        rcases hi with rfl | rfl
        · exact r2.2.1
        · exact r2.2.2.2
      refine ⟨_, C4, M8, eC, eR, cu, x, b, us, ks, o, hR.ans2 ⟨fun c hc => by rw [t4.1 c (by omega), c2c c (by omega) (by omega) (by omega) (by omega) (by omega)], by rw [t4.2 5 (by omega), c2c 0 (by omega) (by omega) (by omega) (by omega) (by omega)], by rw [t4.2 8 (by omega), c2c 0 (by omega) (by omega) (by omega) (by omega) (by omega)]⟩ (fun c hc => by rw [n2.2.1 c (by omega) (by omega), m7c c hc]) (m80 2 (by omega)) (m80 51 (by omega)) n3 ⟨_, _, by simp, by simp, t5, g5.fr n2.1 (n2.2.2 4 (by omega)), fun _ => rfl⟩⟩
end
end
section
/-! promise 34: mends -/
def gq_mn (S : Nat → Nat) : Nat → Nat × Nat
  | 0 => (0, 25)
  | s + 1 => if S s < (gq_mn S s).2 then (s, S s) else gq_mn S s
theorem gq_mn_b (S : Nat → Nat) : ∀ n, (gq_mn S n).1 ≤ n ∧ (gq_mn S n).2 ≤ 25
  | 0 => ⟨Nat.le_refl _, Nat.le_refl _⟩
  | n + 1 => by
    obtain ⟨a, b⟩ := gq_mn_b S n
    rw [gq_mn]
    split
    · rename_i h
      dsimp only
      omega
    · omega
section
variable {B : Prop} {M M' Mc Mr Mc' Mr' : gz_M} {cu q : Nat} {l : List Nat} {T : gp_T}
/-- one number told -/
theorem gp_tell1C (M : gz_M) (p : Int64) : ∃ M1, f11_tell p (gz_w M 0 15 0) = some M1 ∧ gp_fC M M1 ∧ gp_wC M1 [p] := by
  obtain ⟨a1, a2⟩ := gp_wC0 M
  obtain ⟨M1, b1, b2, b3⟩ := gp_tellC p a2 (by simp)
  exact ⟨M1, b1, a1.trans b2, b3⟩
theorem gp_tell1R (M : gz_M) (p : Int64) : ∃ M1, f12_tell p (gz_w M 0 4 0) = some M1 ∧ gp_fR M M1 ∧ gp_wR M1 [p] := by
  obtain ⟨a1, a2⟩ := gp_wR0 M
  obtain ⟨M1, b1, b2, b3⟩ := gp_tellR p a2 (by simp)
  exact ⟨M1, b1, a1.trans b2, b3⟩
theorem gp_mdC (hw : gp_wT T) (ht : gp_tC 11 Mc T) (hcu : cu = 30 ∨ cu = 60) (h8 : gz_cIx (Mc.1 0 8) = 90 - cu) (hq : q < l.length) (hl24 : l.length ≤ 24) : ∀ (d s n : Nat) (M : gz_M) (l2 : List Nat), s + d = 8 → d < n → M.2 = Mc.2 → (∀ c, c ≠ 58 → c ≠ 59 → c < 90 - cu ∨ 90 - cu + 9 ≤ c → M.1 c = Mc.1 c) → gp_lC 58 M l2 → l2.length = l.length → (∀ z, l2.set q z = l.set q z) → ∃ M', f11_mends_38 n (nI q) (nI (gq_mn (fun z => gp_stk (gp_cut T (l.set q z))) s).1) (nI (gq_mn (fun z => gp_stk (gp_cut T (l.set q z))) s).2) (nI s) M = (gz_bd (f11_tell (nI (gq_mn (fun z => gp_stk (gp_cut T (l.set q z))) 8).2).toInt64 (gz_w M' 0 15 0)) fun M3 => some (nI (gq_mn (fun z => gp_stk (gp_cut T (l.set q z))) 8).1, M3)) ∧ M'.2 = Mc.2 ∧ ∀ c, c ≠ 58 → c ≠ 59 → c < 90 - cu ∨ 90 - cu + 9 ≤ c → M'.1 c = Mc.1 c := by
  intro d
  induction d with
  | zero =>
    intro s n M l2 hs hn h2 hc hC hl hz
    obtain ⟨n, rfl⟩ : ∃ q, n = q + 1 := ⟨n - 1, by omega⟩
    have : s = 8 := by omega
    subst this
    refine ⟨M, ?_, h2, hc⟩
    rw [f11_mends_38, if_pos (show (8 : Int32) ≤ nI 8 by decide), gp_eL]
  | succ d ih =>
    intro s n M l2 hs hn h2 hc hC hl hz
    obtain ⟨n, rfl⟩ : ∃ q, n = q + 1 := ⟨n - 1, by omega⟩
    obtain ⟨M1, e1, e2, e3⟩ := gp_putC (q := q) (s := s) hC (by omega) (by omega)
    rw [hz s] at e3
    have m1c : ∀ c, c ≠ 58 → c ≠ 59 → c < 90 - cu ∨ 90 - cu + 9 ≤ c → M1.1 c = Mc.1 c := fun c c1 c2 c3 => by rw [e2.2 c c1 c2, hc c c1 c2 c3]
    obtain ⟨M2, f1, f2, f3, f4⟩ := gp_make (M := M1) (k := 90 - cu) (k0 := 11) (k1 := 58) hw (by omega) (by omega) (ht.fr (fun c c1 c2 => m1c c (by omega) (by omega) (by omega))) e3
    have m2c : ∀ c, c ≠ 58 → c ≠ 59 → c < 90 - cu ∨ 90 - cu + 9 ≤ c → M2.1 c = Mc.1 c := fun c c1 c2 c3 => by rw [f3 c c3, m1c c c1 c2 c3]
    have hst := gp_stuckC hw (gp_cut_ok (l := l.set q s) hw) f4 gp_cut_len
    have hS : gp_stk (gp_cut T (l.set q s)) ≤ 24 := Nat.le_trans (gp_stk_le _) gp_cut_len
    obtain ⟨b1, b2⟩ := gq_mn_b (fun z => gp_stk (gp_cut T (l.set q z))) s
    rw [f11_mends_38, if_neg (show ¬ (8 : Int32) ≤ nI s from nI_ge (b := 8) (by omega) (by omega)), e1, gp_eB, m1c 0 (by omega) (by omega) (by omega), h8, f1, gp_eB, m2c 0 (by omega) (by omega) (by omega), h8, hst, gp_eB2]
    have hmn : gq_mn (fun z => gp_stk (gp_cut T (l.set q z))) (s + 1) = if gp_stk (gp_cut T (l.set q s)) < (gq_mn (fun z => gp_stk (gp_cut T (l.set q z))) s).2 then (s, gp_stk (gp_cut T (l.set q s))) else gq_mn (fun z => gp_stk (gp_cut T (l.set q z))) s := rfl
    have hl58 : gp_lC 58 M2 (l.set q s) := e3.fr (fun c c1 c2 => f3 c (by omega))
    have nx := ih (s + 1) n M2 (l.set q s) (by omega) (by omega) (by rw [f2, e2.1, h2]) m2c hl58 (by simp) (fun z => by rw [List.set_set])
    rw [hmn] at nx
    by_cases hlt : gp_stk (gp_cut T (l.set q s)) < (gq_mn (fun z => gp_stk (gp_cut T (l.set q z))) s).2
    · rw [if_pos hlt] at nx
      rw [if_neg (nI_ge hlt (by omega)), gp_eL, nI_1]
      exact nx
    · rw [if_neg hlt] at nx
      rw [if_pos (nI_le (by omega) (by omega)), gp_eL, nI_1]
      exact nx
theorem gp_mdR (hw : gp_wT T) (ht : gp_tR Mr T) (hlr : gp_lR Mr l) (hq : q < l.length) : ∀ (d s n : Nat) (M : gz_M), s + d = 8 → d < n → M.2 = Mr.2 → (∀ c, c ≠ 0 → c ≠ 1 → ¬ (16 ≤ c ∧ c ≤ 20) → M.1 c = Mr.1 c) → (∀ i, i ≠ 82 + q → M.1 1 i = Mr.1 1 i) → (∀ i, i ≠ 26 → i ≠ 28 → i ≠ 29 → i ≠ 31 → i ≠ 32 → M.1 0 i = Mr.1 0 i) → ∃ M', f12_mends_42 n (nI q) (Mr.1 1 (82 + q)) (if s = 0 then -1 else nI (gq_mn (fun z => gp_stk (gp_cut T (l.set q z))) s).1) (if s = 0 then 0 else nI (gq_mn (fun z => gp_stk (gp_cut T (l.set q z))) s).2) (nI s) M = (gz_bd (f12_tell (nI (gq_mn (fun z => gp_stk (gp_cut T (l.set q z))) 8).2).toInt64 (gz_w M' 0 4 0)) fun M5 => some (nI (gq_mn (fun z => gp_stk (gp_cut T (l.set q z))) 8).1, M5)) ∧ M'.2 = Mr.2 ∧ (∀ c, c ≠ 0 → ¬ (16 ≤ c ∧ c ≤ 20) → M'.1 c = Mr.1 c) ∧ (∀ i, i ≠ 26 → i ≠ 28 → i ≠ 29 → i ≠ 31 → i ≠ 32 → M'.1 0 i = Mr.1 0 i) := by
  have hl24 := hlr.1
  have e82 : (82 : Int32) + nI q = nI (82 + q) := by rw [show (82 : Int32) = nI 82 from rfl, nI_add]
  intro d
  induction d with
  | zero =>
    intro s n M hs hn h2 hc h1 h0
    obtain ⟨n, rfl⟩ : ∃ q, n = q + 1 := ⟨n - 1, by omega⟩
    have : s = 8 := by omega
    subst this
    refine ⟨gz_w M 1 (82 + q) (Mr.1 1 (82 + q)), ?_, by rw [gp_gl]; exact h2, fun c c1 c2 => ?_, fun i a1 a2 a3 a4 a5 => by rw [gp_gn (by omega)]; exact h0 i a1 a2 a3 a4 a5⟩
    · rw [f12_mends_42, if_pos (show (8 : Int32) ≤ nI 8 by decide), e82, gp_ckb (show 82 + q < 106 by omega) (by omega), nI_clamp (by omega), gp_eL, gp_eL, if_neg (show ¬ (8 = 0) by omega), if_neg (show ¬ (8 = 0) by omega)]
    · by_cases e : c = 1
      · subst e
        funext i
        by_cases ei : i = 82 + q
        · rw [ei, gp_gs]
        · rw [gp_gn (by omega)]
          exact h1 i ei
      · rw [gp_wc _ e]
        exact hc c c1 e c2
  | succ d ih =>
    intro s n M hs hn h2 hc h1 h0
    obtain ⟨n, rfl⟩ : ∃ q, n = q + 1 := ⟨n - 1, by omega⟩
    obtain ⟨N, hN⟩ : ∃ N, N = gz_w M 1 (82 + q) (nI s) := ⟨_, rfl⟩
    have Nc : ∀ c, c ≠ 1 → N.1 c = M.1 c := fun c h => by rw [hN, gp_wc _ h]
    have tN : gp_tR N T := ht.fr (fun c c1 c2 => by rw [Nc c (by omega), hc c (by omega) (by omega) (by omega)]) (by rw [Nc 0 (by omega), h0 10 (by omega) (by omega) (by omega) (by omega) (by omega)])
    have lN : gp_lR N (l.set q s) := by
      refine ⟨by simpa using hl24, ?_, fun i hi => ?_⟩
      · rw [hN, gp_gn (by omega), h1 81 (by omega)]
        simpa using hlr.2.1
      · have hi : i < l.length := by simpa using hi
        rw [gp_set_D hq]
        by_cases ei : i = q
        · rw [ei, hN, gp_gs, if_pos rfl]
          exact ⟨rfl, by omega⟩
        · rw [hN, gp_gn (by omega), h1 (82 + i) (by omega), if_neg ei]
          exact hlr.2.2 i hi
    obtain ⟨M2, f1, f2, f3, f4, f5, f6⟩ := gp_cutAll0 hw tN lN
    have hst := gp_stuckR hw (gp_cut_ok (l := l.set q s) hw) f4 gp_cut_len
    have hS : gp_stk (gp_cut T (l.set q s)) ≤ 24 := Nat.le_trans (gp_stk_le _) gp_cut_len
    obtain ⟨b1, b2⟩ := gq_mn_b (fun z => gp_stk (gp_cut T (l.set q z))) s
    have hmn : gq_mn (fun z => gp_stk (gp_cut T (l.set q z))) (s + 1) = if gp_stk (gp_cut T (l.set q s)) < (gq_mn (fun z => gp_stk (gp_cut T (l.set q z))) s).2 then (s, gp_stk (gp_cut T (l.set q s))) else gq_mn (fun z => gp_stk (gp_cut T (l.set q z))) s := rfl
    have nx := ih (s + 1) n M2 (by omega) (by omega) (by rw [f2.1, hN, gp_gl]; exact h2) (fun c c1 c2 c3 => by rw [f2.2.1 c c1 c3, Nc c c2, hc c c1 c2 c3]) (fun i hi => by rw [f2.2.1 1 (by omega) (by omega), hN, gp_gn (by omega)]; exact h1 i hi) (fun i a1 a2 a3 a4 a5 => by rw [f2.2.2 i a1 a2 a3 a4 a5, Nc 0 (by omega), h0 i a1 a2 a3 a4 a5])
    rw [if_neg (show ¬ s + 1 = 0 by omega), if_neg (show ¬ s + 1 = 0 by omega), hmn] at nx
    rw [f12_mends_42, if_neg (show ¬ (8 : Int32) ≤ nI s from nI_ge (b := 8) (by omega) (by omega)), e82, gp_ckb (show 82 + q < 106 by omega) (by omega), nI_clamp (by omega), gp_eL, ← hN, f1, gp_eB]
    by_cases hs0 : s = 0
    · subst hs0
      have hlt : gp_stk (gp_cut T (l.set q 0)) < (gq_mn (fun z => gp_stk (gp_cut T (l.set q z))) 0).2 := by
        show _ < 25
        omega
      rw [if_pos hlt] at nx
      rw [if_pos rfl, if_pos rfl]
      unfold f12_mends_82
      rw [hst, gp_eB2, gp_eL, nI_1]
      exact nx
    · rw [if_neg hs0, if_neg hs0, if_neg (show ¬ nI (gq_mn (fun z => gp_stk (gp_cut T (l.set q z))) s).1 = -1 from by rw [gp_m1, gp_ne1 (by omega)]; exact id), hst, gp_eB2]
      by_cases hlt : gp_stk (gp_cut T (l.set q s)) < (gq_mn (fun z => gp_stk (gp_cut T (l.set q z))) s).2
      · rw [if_pos hlt] at nx
        rw [if_pos (nI_lt hlt (by omega))]
        unfold f12_mends_82
        rw [hst, gp_eB2, gp_eL, nI_1]
        exact nx
      · rw [if_neg hlt] at nx
        rw [if_neg (nI_nlt (by omega) (by omega)), gp_eL, nI_1]
        exact nx
theorem gp_a34 (h : gp_Q B cu Mc Mr T l) (a : Int32) : gp_ans B cu Mc Mr (f11_mends a Mc) (f12_mends a Mr) := by
  have hq := h
  obtain ⟨h1, h2, h3, h4, h5, h6, h7, h8⟩ := h
  have h42 := h4.1
  have hcu := h6.1
  have n0 : (gz_w Mr 0 5 0).1 1 (81 : Int32).toNatClampNeg = nI l.length := by rw [gp_wc _ (by omega)]; exact h5.2.1
  rcases gp_has h4 a with ⟨h0, e⟩ | ⟨h0, ha, e⟩ | ⟨j, hj, rfl, e⟩
  · refine gp_ansN hq (-1) ?_ ?_
    · unfold f11_mends; rw [show (7 + 2 : Nat) = 9 from rfl, e, gp_eB2, if_pos rfl]
    · unfold f12_mends; rw [gp_eL, gp_c81, n0, gp_in0 _ _ h0, gp_eB2, if_pos rfl]
  · refine gp_ansN hq (-1) ?_ ?_
    · unfold f11_mends; rw [show (7 + 2 : Nat) = 9 from rfl, e, gp_eB2, if_pos rfl]
    · unfold f12_mends; rw [gp_eL, gp_c81, n0, gp_in0b _ (by omega) h0 ha, gp_eB2, if_pos rfl]
  · obtain ⟨C1, c1, c2, c3, c4⟩ := gp_lcp (l := l) (k := 58) (k0 := 9) (by omega) Mc
    have k8 : gz_cIx (Mc.1 0 8) = 90 - cu := h7
    obtain ⟨C2, d1, d2, d3⟩ := gp_mdC (cu := cu) (q := j) (l := l) h1 h2 hcu k8 hj h42 8 0 gz_FU C1 l (by omega) (by unfold gz_FU; omega) c2 (fun c e1 e2 e3 => c3 c e1 e2) (c4 h4) rfl (fun z => rfl)
    obtain ⟨C3, t1, t2, t3⟩ := gp_tell1C C2 (nI (gq_mn (fun z => gp_stk (gp_cut T (l.set j z))) 8).2).toInt64
    rw [t1, gp_eB] at d1
    have e82 : (82 : Int32) + nI j = nI (82 + j) := by rw [show (82 : Int32) = nI 82 from rfl, nI_add]
    obtain ⟨R2, r1, r2, r3, r4⟩ := gp_mdR (q := j) (l := l) (Mr := gz_w Mr 0 5 0) h1 (h3.fr (fun c e1 e2 => gp_wc _ (by omega)) (gp_gn (by omega))) (h5.fr (gp_wc _ (by omega))) hj 8 0 gz_FU (gz_w Mr 0 5 0) (by omega) (by unfold gz_FU; omega) rfl (fun _ _ _ _ => rfl) (fun _ _ => rfl) (fun _ _ _ _ _ _ => rfl)
    obtain ⟨R3, s1, s2, s3⟩ := gp_tell1R R2 (nI (gq_mn (fun z => gp_stk (gp_cut T (l.set j z))) 8).2).toInt64
    rw [s1, gp_eB] at r1
    refine gp_ansI (v := nI (gq_mn (fun z => gp_stk (gp_cut T (l.set j z))) 8).1) (Mc' := C3) (Mr' := R3) ?_ ?_ ?_ ?_ t3 s3 (by simp)
    · unfold f11_mends
      rw [show (7 + 2 : Nat) = 9 from rfl, e, gp_eB2, if_neg (by decide), c1, gp_eB]
      exact d1
    · unfold f12_mends
      rw [gp_eL, gp_c81, n0, gp_in1 _ (by omega) hj, gp_eB2, if_neg (by decide), e82, gp_ckb (show 82 + j < 106 by omega) (by omega), nI_clamp (by omega), gp_eL]
      exact r1
    · refine ⟨fun c hc => by rw [t2.1 c (by omega), d3 c (by omega) (by omega) (by omega)], ?_, ?_⟩
      · rw [t2.2 5 (by omega), d3 0 (by omega) (by omega) (by omega)]
      · rw [t2.2 8 (by omega), d3 0 (by omega) (by omega) (by omega)]
    · refine ⟨fun c hc => by rw [s2.1 c (by omega), r3 c (by omega) (by omega), gp_wc _ (by omega)], ?_, ?_, ?_⟩
      · rw [s2.2 2 (by omega), r4 2 (by omega) (by omega) (by omega) (by omega) (by omega), gp_gn (by omega)]
      · rw [s2.2 10 (by omega), r4 10 (by omega) (by omega) (by omega) (by omega) (by omega), gp_gn (by omega)]
      · rw [s2.2 51 (by omega), r4 51 (by omega) (by omega) (by omega) (by omega) (by omega), gp_gn (by omega)]
end
end
section
/-! the reference cuts one token, whatever stands for the most modes (made by wip/gen/weak.py of parts 48 to 50) -/
section
variable {k k0 k1 m S s x p q : Nat} {M M' : gz_M} {T : gp_T} {l : List Nat} {F : Nat → Nat → Bool}
theorem gq_actR (hw : gp_wT T) (ht : gp_tR M T) {j : Nat} (hj : j < T.1) {stk : List Nat} (hsk : gp_sk stk) {mo : Nat} (hmo2 : mo ≤ 5) (hmo : M.1 0 29 = nI mo) (hs : gp_sR M stk) :
    ∃ M', f12_doAct (nI j) M = some M' ∧ gp_actL M M' ∧ gp_sR M' (gp_act T (some j) stk) ∧ (∃ mo2, mo2 ≤ 5 ∧ M'.1 0 29 = nI mo2) := by
  have hw1 := hw.1
  have hwj := hw.2.1 j hj
  have htj := ht.2.1 j hj
  have hl5 := hsk.2.1
  obtain ⟨d0, t, rfl⟩ : ∃ d t, stk = d :: t := by
    cases stk with
    | nil => exact absurd hsk.1 (by decide)
    | cons d t => exact ⟨d, t, rfl⟩
  have e3 : M.1 7 j = nI (T.2.2 3 j) := htj.2.2.1
  have hl5' : t.length + 1 ≤ 5 := hl5
  unfold f12_doAct
  rw [gp_ckb (by omega) (by omega), nI_clamp (by omega), e3, hs.1]
  have hc3 : T.2.2 3 j = 0 ∨ T.2.2 3 j = 1 ∨ T.2.2 3 j = 2 ∨ T.2.2 3 j = 3 := by omega
  -- the tail of the row, where the act isn't 2 or 3
  have tail : ∀ M1 : gz_M, M1.1 7 j = nI (T.2.2 3 j) → T.2.2 3 j ≤ 1 → f12_doAct_28 (nI j) M1 = some M1 := by
    intro M1 h1 h2
    unfold f12_doAct_28 f12_doAct_55
    have n3 : ¬ nI (T.2.2 3 j) = 3 := fun e => by have := (nI_eq (b := 3) (by omega) (by omega)).mp e; omega
    have n2 : ¬ nI (T.2.2 3 j) = 2 := fun e => by have := (nI_eq (b := 2) (by omega) (by omega)).mp e; omega
    rw [gp_ckb (by omega) (by omega), nI_clamp (by omega), h1, if_neg n3, gp_ckb (by omega) (by omega), if_neg n2]
  rcases hc3 with e | e | e | e
  · have ea : gp_act T (some j) (d0 :: t) = d0 :: t := by unfold gp_act; simp only [e]; rfl
    rw [e, if_neg (by decide), tail M e3 (by omega), ea]
    refine ⟨M, rfl, ⟨rfl, fun _ _ _ => rfl, fun _ _ _ => rfl⟩, hs, ?_⟩
    exact ⟨mo, hmo2, hmo⟩
  · rw [e, if_pos (show nI 1 = 1 from rfl)]
    by_cases hl : (d0 :: t).length ≤ 1
    · have ea : gp_act T (some j) (d0 :: t) = d0 :: t := by unfold gp_act; simp only [e, hl, if_true]
      rw [if_pos (by exact nI_le hl (by decide)), tail M e3 (by omega), ea]
      refine ⟨M, rfl, ⟨rfl, fun _ _ _ => rfl, fun _ _ _ => rfl⟩, hs, ?_⟩
      exact ⟨mo, hmo2, hmo⟩
    · have ea : gp_act T (some j) (d0 :: t) = t := by unfold gp_act; simp only [e, hl, if_false, if_true]; rfl
      rw [if_neg (show ¬ nI (d0 :: t).length ≤ (1 : Int32) from nI_ge (a := 1) (by omega) (by omega)), gp_eL, tail _ (by rw [gp_gn (by omega), e3]) (by omega), ea]
      refine ⟨_, rfl, ⟨rfl, fun c c1 c2 => gp_wc _ c1, fun i i1 i2 => gp_gn (by omega)⟩, ⟨?_, fun x hx => ?_⟩, ?_⟩
      · rw [gp_gs]
        exact nI_pred _
      · rw [gp_gn (by omega), hs.2 x (by simp; omega), gp_getD_snoc x (by simp; omega), if_pos hx]
      · exact ⟨mo, hmo2, by rw [gp_gn (by omega), hmo]⟩
  · have n3 : ¬ nI 2 = (3 : Int32) := by decide
    rw [e, if_neg (by decide)]
    unfold f12_doAct_28 f12_doAct_55
    rw [gp_ckb (by omega) (by omega), nI_clamp (by omega), e3, e, if_neg n3, gp_ckb (by omega) (by omega), if_pos (show nI 2 = 2 from rfl), hs.1]
    have ea : gp_act T (some j) (d0 :: t) = ((T.2.1 j).toNatClampNeg :: (d0 :: t)).take 5 := by unfold gp_act; simp only [e]; rfl
    by_cases h5 : (d0 :: t).length = 5
    · rw [h5, if_pos (show nI 5 = 5 from rfl), ea, List.take_succ_cons]
      obtain ⟨M', f1, f2, f3, f4⟩ := gp_actR_76 (stk := d0 :: t) hw hj e h5 hmo2 4 gz_FU 1 M (by omega) (by omega) (by unfold gz_FU; omega) ht hmo (by rw [hs.1, h5]) (fun y hy => absurd hy (by omega)) (fun y h1 h2 => by rw [hs.2 y (by omega), h5])
      refine ⟨M', f1, f2, f3, ?_⟩
      exact ⟨max mo 5, by omega, f4⟩
    · rw [if_neg (show ¬ nI (d0 :: t).length = (5 : Int32) from fun e => h5 ((nI_eq (b := 5) (by omega) (by omega)).mp e)), ea, List.take_of_length_le (by simp only [List.length_cons] at h5 ⊢; omega)]
      obtain ⟨M', f1, f2, f3, f4⟩ := gp_actR_111 hw ht hj e (stk := d0 :: t) (by omega) hmo2 hmo hs
      exact ⟨M', f1, f2, f3, max mo ((d0 :: t).length + 1), by simp only [List.length_cons] at h5 ⊢; omega, f4⟩
  · rw [e, if_neg (by decide)]
    obtain ⟨d, hd, ed⟩ := hwj.2.2.2.2.2 (by omega)
    have ea : gp_act T (some j) (d0 :: t) = (T.2.1 j).toNatClampNeg :: t := by unfold gp_act; simp only [e]; rfl
    unfold f12_doAct_28 f12_doAct_55
    rw [gp_ckb (by omega) (by omega), nI_clamp (by omega), e3, e, if_pos (show nI 3 = 3 from rfl), gp_ckb (by omega) (by omega), hs.1]
    rw [show nI (d0 :: t).length - 1 = nI t.length from nI_pred _, gp_ckb (by omega) (by omega), gp_eL, nI_clamp (by omega), htj.2.2.2.1, gp_ckb (by omega) (by omega), gp_gn (by omega), e3, e, if_neg (by decide), ea]
    refine ⟨_, rfl, ⟨rfl, fun c c1 c2 => gp_wc _ c2, fun i i1 i2 => gp_gn (by omega)⟩, ⟨?_, fun x hx => ?_⟩, ?_⟩
    · rw [gp_gn (by omega), hs.1]
      rfl
    · rw [gp_getD_snoc x hx]
      simp only [List.length_cons] at hx
      by_cases hx1 : x < t.length
      · rw [if_pos hx1, gp_gn (by omega), hs.2 x (by simp; omega), gp_getD_snoc x (by simp; omega), if_pos hx1]
      · have : x = t.length := by omega
        subst this
        rw [if_neg hx1, gp_gs, ed, nI_clamp (by omega)]
    · exact ⟨mo, hmo2, by rw [gp_gn (by omega), hmo]⟩
end
section
variable {k k0 k1 m S s x p q : Nat} {M M' : gz_M} {T : gp_T} {l : List Nat} {F : Nat → Nat → Bool}
theorem gq_cut250 (hw : gp_wT T) (ht : gp_tR M T) {stk : List Nat} (hsk : gp_sk stk) (hs : gp_sR M stk) {mo j : Nat} (hmo2 : mo ≤ 5) (hmo : M.1 0 29 = nI mo) (hj : j < 25) (h31 : M.1 0 31 = nI j) (hp : p < 24) (h26 : M.1 0 26 = nI p) (R : Option Nat × Nat × Nat × Option Nat × List Nat) (hR1 : ∀ i, R.1 = some i → i < T.1) (hR2 : R.2.1 < 2 ^ 30) (hR3 : 0 < R.2.2.1 ∧ R.2.2.1 < 2 ^ 30) (hR4 : ∀ x, R.2.2.2.1 = some x → R.2.2.1 = x + 1) {S' : Nat} (hS' : S' < 2 ^ 10) (hS2 : R.2.2.2.1.isSome = true ↔ S' = 0) :
    ∃ M', f12_cutOne_250 (nI (stk.headD 0)) (nI S') (gp_o (if R.1.isSome = true then some R.2.1 else none)) (gp_o R.1) (nI R.2.2.1) M = some M' ∧ M'.2 = M.2 ∧ (∀ c, c ≠ 0 → c ≠ 16 → c ≠ 17 → M'.1 c = M.1 c) ∧ (∀ i, i ≠ 26 → i ≠ 28 → i ≠ 29 → i ≠ 31 → M'.1 0 i = M.1 0 i) ∧ gp_sR M' (gp_tokO T p stk R).2.2.2.2.2.2 ∧ M'.1 0 26 = nI (gp_tokO T p stk R).2.2.1 ∧ (∃ mo2, mo2 ≤ 5 ∧ M'.1 0 29 = nI mo2) ∧ M'.1 0 31 = nI (j + 1) ∧ gp_rK M' j (gp_tokO T p stk R) ∧ ∀ y, y < 12 * j → M'.1 17 y = M.1 17 y := by
  generalize htk : gp_tokO T p stk R = t
  have t1 : t.1 = R.1 := by rw [← htk]; rfl
  have t2 : t.2.1 = p := by rw [← htk]; rfl
  have t3 : t.2.2.1 = if R.1.isSome = true then R.2.1 else p + 1 := by rw [← htk]; rfl
  have t4 : t.2.2.2.1 = R.2.2.1 := by rw [← htk]; rfl
  have t5 : t.2.2.2.2.1 = R.2.2.2.1 := by rw [← htk]; rfl
  have t6 : t.2.2.2.2.2.1 = stk.headD 0 := by rw [← htk]; rfl
  have t7 : t.2.2.2.2.2.2 = gp_act T R.1 stk := by rw [← htk]; rfl
  have hw1 := hw.1
  have hsk2 : gp_sk t.2.2.2.2.2.2 := by rw [t7]; exact gp_act_sk hw hR1 hsk
  have hsk5 := hsk2.2.1
  -- from the first word on
  have n12 : (12 : Int32) * nI j = nI (12 * j) := by rw [show (12 : Int32) = nI 12 from rfl, pk_mul]
  have a0 : ∀ i : Nat, nI (12 * j) + nI i = nI (12 * j + i) := fun i => nI_add _ _
  -- the last words
  have last : ∀ M1 : gz_M, M1.2 = M.2 → (∀ c, c ≠ 0 → c ≠ 17 → M1.1 c = M.1 c) → (∀ i, i ≠ 26 → M1.1 0 i = M.1 0 i) → M1.1 0 26 = nI t.2.2.1 → (M1.1 17 (12 * j) = gp_o t.1 ∧ M1.1 17 (12 * j + 1) = nI t.2.1 ∧ M1.1 17 (12 * j + 2) = nI t.2.2.1 ∧ M1.1 17 (12 * j + 3) = nI (if t.2.2.2.2.1.isSome = true then t.2.2.2.1 else t.2.2.2.1 + 1) ∧ M1.1 17 (12 * j + 4) = nI t.2.2.2.2.2.1 ∧ M1.1 17 (12 * j + 6) = gp_o t.2.2.2.2.1) → (∀ y, y < 12 * j → M1.1 17 y = M.1 17 y) → ∃ M', (if gp_o R.1 = (-1) then (f12_cutOne_388 (nI (12 * j)) M1) else (gz_bd (f12_doAct (gp_o R.1) M1) fun M6 => f12_cutOne_388 (nI (12 * j)) M6)) = some M' ∧ M'.2 = M.2 ∧ (∀ c, c ≠ 0 → c ≠ 16 → c ≠ 17 → M'.1 c = M.1 c) ∧ (∀ i, i ≠ 26 → i ≠ 28 → i ≠ 29 → i ≠ 31 → M'.1 0 i = M.1 0 i) ∧ gp_sR M' t.2.2.2.2.2.2 ∧ M'.1 0 26 = nI t.2.2.1 ∧ (∃ mo2, mo2 ≤ 5 ∧ M'.1 0 29 = nI mo2) ∧ M'.1 0 31 = nI (j + 1) ∧ gp_rK M' j t ∧ ∀ y, y < 12 * j → M'.1 17 y = M.1 17 y := by
    intro M1 b1 b2 b3 b4 b5 b6
    have c388 : ∀ M2 : gz_M, gp_actL M1 M2 → gp_sR M2 t.2.2.2.2.2.2 → (∃ mo2, mo2 ≤ 5 ∧ M2.1 0 29 = nI mo2) → ∃ M', f12_cutOne_388 (nI (12 * j)) M2 = some M' ∧ M'.2 = M.2 ∧ (∀ c, c ≠ 0 → c ≠ 16 → c ≠ 17 → M'.1 c = M.1 c) ∧ (∀ i, i ≠ 26 → i ≠ 28 → i ≠ 29 → i ≠ 31 → M'.1 0 i = M.1 0 i) ∧ gp_sR M' t.2.2.2.2.2.2 ∧ M'.1 0 26 = nI t.2.2.1 ∧ (∃ mo2, mo2 ≤ 5 ∧ M'.1 0 29 = nI mo2) ∧ M'.1 0 31 = nI (j + 1) ∧ gp_rK M' j t ∧ ∀ y, y < 12 * j → M'.1 17 y = M.1 17 y := by
      intro M2 d1 d2 d3
      unfold f12_cutOne_388
      rw [show (5 : Int32) = nI 5 from rfl, a0, gp_ckb (by omega) (by omega), gp_eL, nI_clamp (by omega), d2.1]
      obtain ⟨M', e1, e2, e3, e4, e5, e6, e7⟩ := gp_cut404 (12 * j) (by omega) t.2.2.2.2.2.2 hsk5 5 gz_FU 0 (gz_w M2 17 (12 * j + 5) (nI t.2.2.2.2.2.2.length)) (by omega) (by unfold gz_FU; omega) ⟨by rw [gp_gn (by omega)]; exact d2.1, fun x hx => by rw [gp_gn (by omega)]; exact d2.2 x hx⟩
      have h17 : M2.1 17 = M1.1 17 := d1.2.1 17 (by omega) (by omega)
      have hrow : ∀ y, y < 12 * j + 7 → y ≠ 12 * j + 5 → M'.1 17 y = M1.1 17 y := fun y y1 y2 => by rw [e6 y (by omega), gp_gn (by omega), h17]
      refine ⟨M', e1, ?_, fun c c1 c2 c3 => ?_, fun i i1 i2 i3 i4 => ?_, ⟨?_, fun x hx => ?_⟩, ?_, ?_, ?_, ⟨?_, ?_, ?_, ?_, ?_, ?_, ?_, fun x hx => ?_⟩, fun y hy => ?_⟩
      · rw [e2, gp_gl, d1.1, b1]
      · rw [e3 c c1 c3, gp_wc _ c3, d1.2.1 c c1 c2, b2 c c1 c3]
      · rw [e4 i i4, gp_gn (by omega), d1.2.2 i i2 i3, b3 i i1]
      · rw [e4 _ (by omega), gp_gn (by omega)]; exact d2.1
      · rw [e3 _ (by omega) (by omega), gp_gn (by omega)]; exact d2.2 x hx
      · rw [e4 _ (by omega), gp_gn (by omega), d1.2.2 _ (by omega) (by omega), b4]
      · obtain ⟨z, z1, z2⟩ := d3
        exact ⟨z, z1, by rw [e4 _ (by omega), gp_gn (by omega), z2]⟩
      · rw [e5, gp_gn (by omega), d1.2.2 _ (by omega) (by omega), b3 _ (by omega), h31, nI_1]
      · rw [hrow _ (by omega) (by omega)]; exact b5.1
      · rw [hrow _ (by omega) (by omega)]; exact b5.2.1
      · rw [hrow _ (by omega) (by omega)]; exact b5.2.2.1
      · rw [hrow _ (by omega) (by omega)]; exact b5.2.2.2.1
      · rw [hrow _ (by omega) (by omega)]; exact b5.2.2.2.2.1
      · rw [e6 _ (by omega), gp_gs]
      · rw [hrow _ (by omega) (by omega)]; exact b5.2.2.2.2.2
      · exact e7 x (by omega) hx
      · rw [hrow _ (by omega) (by omega), b6 y hy]
    have hs1 : gp_sR M1 stk := ⟨by rw [b3 _ (by omega)]; exact hs.1, fun x hx => by rw [b2 _ (by omega) (by omega)]; exact hs.2 x hx⟩
    cases hR : R.1 with
    | none =>
      rw [if_pos (by rfl)]
      have : t.2.2.2.2.2.2 = stk := by rw [t7, hR]; rfl
      exact c388 M1 ⟨rfl, fun _ _ _ => rfl, fun _ _ _ => rfl⟩ (by rw [this]; exact hs1) ⟨mo, hmo2, by rw [b3 _ (by omega), hmo]⟩
    | some i =>
      have hi := hR1 i hR
      rw [if_neg (by rw [gp_m1, gp_oS, gp_ne1 (by omega)]; exact id), gp_oS]
      have ht1 : gp_tR M1 T := ht.fr (fun c c1 c2 => b2 c (by omega) (by omega)) (b3 _ (by omega))
      obtain ⟨M2, f1, f2, f3, f4⟩ := gq_actR hw ht1 hi hsk hmo2 (by rw [b3 _ (by omega), hmo]) hs1
      rw [f1, gp_eB]
      have : t.2.2.2.2.2.2 = gp_act T (some i) stk := by rw [t7, hR]
      exact c388 M2 f2 (by rw [this]; exact f3) f4
  -- the words in their order
  have w362 : ∀ (s0 : Int32) (M1 : gz_M), s0 = gp_o t.2.2.2.2.1 → M1.2 = M.2 → (∀ c, c ≠ 0 → c ≠ 17 → M1.1 c = M.1 c) → (∀ i, M1.1 0 i = M.1 0 i) → (M1.1 17 (12 * j) = gp_o t.1 ∧ M1.1 17 (12 * j + 1) = nI t.2.1 ∧ M1.1 17 (12 * j + 2) = nI t.2.2.1 ∧ M1.1 17 (12 * j + 3) = nI (if t.2.2.2.2.1.isSome = true then t.2.2.2.1 else t.2.2.2.1 + 1) ∧ M1.1 17 (12 * j + 4) = nI t.2.2.2.2.2.1) → (∀ y, y < 12 * j → M1.1 17 y = M.1 17 y) → ∃ M', f12_cutOne_362 (gp_o R.1) (nI (12 * j)) s0 (nI (12 * j) + 6) M1 = some M' ∧ M'.2 = M.2 ∧ (∀ c, c ≠ 0 → c ≠ 16 → c ≠ 17 → M'.1 c = M.1 c) ∧ (∀ i, i ≠ 26 → i ≠ 28 → i ≠ 29 → i ≠ 31 → M'.1 0 i = M.1 0 i) ∧ gp_sR M' t.2.2.2.2.2.2 ∧ M'.1 0 26 = nI t.2.2.1 ∧ (∃ mo2, mo2 ≤ 5 ∧ M'.1 0 29 = nI mo2) ∧ M'.1 0 31 = nI (j + 1) ∧ gp_rK M' j t ∧ ∀ y, y < 12 * j → M'.1 17 y = M.1 17 y := by
    intro s0 M1 h0 b1 b2 b3 b5 b6
    unfold f12_cutOne_362
    rw [show (6 : Int32) = nI 6 from rfl, show (2 : Int32) = nI 2 from rfl, a0, a0, gp_ckb (by omega) (by omega), gp_eL, gp_ckb (by omega) (by omega), gp_eL, nI_clamp (by omega), nI_clamp (by omega), gp_gn (by omega), b5.2.2.1]
    refine last _ ?_ (fun c c1 c2 => ?_) (fun i i1 => ?_) ?_ ⟨?_, ?_, ?_, ?_, ?_, ?_⟩ (fun y hy => ?_)
    · exact b1
    · rw [gp_wc _ c1, gp_wc _ c2, b2 c c1 c2]
    · rw [gp_gn (by omega), gp_gn (by omega), b3]
    · rw [gp_gs]
    · rw [gp_gn (by omega), gp_gn (by omega)]; exact b5.1
    · rw [gp_gn (by omega), gp_gn (by omega)]; exact b5.2.1
    · rw [gp_gn (by omega), gp_gn (by omega)]; exact b5.2.2.1
    · rw [gp_gn (by omega), gp_gn (by omega)]; exact b5.2.2.2.1
    · rw [gp_gn (by omega), gp_gn (by omega)]; exact b5.2.2.2.2
    · rw [gp_gn (by omega), gp_gs]; exact h0
    · rw [gp_gn (by omega), gp_gn (by omega), b6 y hy]
  have w330 : ∀ (s0 : Int32) (M1 : gz_M), s0 = nI (if t.2.2.2.2.1.isSome = true then t.2.2.2.1 else t.2.2.2.1 + 1) → M1.2 = M.2 → (∀ c, c ≠ 0 → c ≠ 17 → M1.1 c = M.1 c) → (∀ i, M1.1 0 i = M.1 0 i) → (M1.1 17 (12 * j) = gp_o t.1 ∧ M1.1 17 (12 * j + 1) = nI t.2.1 ∧ M1.1 17 (12 * j + 2) = nI t.2.2.1) → (∀ y, y < 12 * j → M1.1 17 y = M.1 17 y) → ∃ M', f12_cutOne_330 (nI (stk.headD 0)) (nI S') (gp_o R.1) (nI R.2.2.1) (nI (12 * j)) s0 (nI (12 * j) + 3) M1 = some M' ∧ M'.2 = M.2 ∧ (∀ c, c ≠ 0 → c ≠ 16 → c ≠ 17 → M'.1 c = M.1 c) ∧ (∀ i, i ≠ 26 → i ≠ 28 → i ≠ 29 → i ≠ 31 → M'.1 0 i = M.1 0 i) ∧ gp_sR M' t.2.2.2.2.2.2 ∧ M'.1 0 26 = nI t.2.2.1 ∧ (∃ mo2, mo2 ≤ 5 ∧ M'.1 0 29 = nI mo2) ∧ M'.1 0 31 = nI (j + 1) ∧ gp_rK M' j t ∧ ∀ y, y < 12 * j → M'.1 17 y = M.1 17 y := by
    intro s0 M1 h0 b1 b2 b3 b5 b6
    have goo : ∀ s1 : Int32, s1 = gp_o t.2.2.2.2.1 → ∃ M', f12_cutOne_362 (gp_o R.1) (nI (12 * j)) s1 (nI (12 * j) + 6) (gz_w (gz_w M1 17 (12 * j + 3) s0) 17 (12 * j + 4) (nI (stk.headD 0))) = some M' ∧ M'.2 = M.2 ∧ (∀ c, c ≠ 0 → c ≠ 16 → c ≠ 17 → M'.1 c = M.1 c) ∧ (∀ i, i ≠ 26 → i ≠ 28 → i ≠ 29 → i ≠ 31 → M'.1 0 i = M.1 0 i) ∧ gp_sR M' t.2.2.2.2.2.2 ∧ M'.1 0 26 = nI t.2.2.1 ∧ (∃ mo2, mo2 ≤ 5 ∧ M'.1 0 29 = nI mo2) ∧ M'.1 0 31 = nI (j + 1) ∧ gp_rK M' j t ∧ ∀ y, y < 12 * j → M'.1 17 y = M.1 17 y := by
      intro s1 h1
      refine w362 s1 _ h1 ?_ (fun c c1 c2 => ?_) (fun i => ?_) ⟨?_, ?_, ?_, ?_, ?_⟩ (fun y hy => ?_)
      · exact b1
      · rw [gp_wc _ c2, gp_wc _ c2, b2 c c1 c2]
      · rw [gp_gn (by omega), gp_gn (by omega), b3]
      · rw [gp_gn (by omega), gp_gn (by omega)]; exact b5.1
      · rw [gp_gn (by omega), gp_gn (by omega)]; exact b5.2.1
      · rw [gp_gn (by omega), gp_gn (by omega)]; exact b5.2.2
      · rw [gp_gn (by omega), gp_gs]; exact h0
      · rw [gp_gs, t6]
      · rw [gp_gn (by omega), gp_gn (by omega), b6 y hy]
    unfold f12_cutOne_330
    rw [show (3 : Int32) = nI 3 from rfl, show (4 : Int32) = nI 4 from rfl, a0, a0, gp_ckb (by omega) (by omega), gp_eL, gp_ckb (by omega) (by omega), gp_eL, nI_clamp (by omega), nI_clamp (by omega)]
    cases hd : R.2.2.2.1 with
    | none =>
      have hne : S' ≠ 0 := fun e => by have := hS2.mpr e; rw [hd] at this; cases this
      rw [if_neg (show ¬ nI S' = (0 : Int32) from fun e => hne ((nI_eq (b := 0) (by omega) (by omega)).mp e))]
      exact goo _ (by rw [t5, hd]; rfl)
    | some x =>
      have he : S' = 0 := hS2.mp (by rw [hd]; rfl)
      subst he
      rw [if_pos nI_0]
      refine goo _ ?_
      rw [t5, hd, hR4 x hd]
      exact nI_pred x
  have w308 : ∀ (s0 : Int32) (M1 : gz_M), s0 = nI t.2.2.1 → M1.2 = M.2 → (∀ c, c ≠ 0 → c ≠ 17 → M1.1 c = M.1 c) → (∀ i, M1.1 0 i = M.1 0 i) → (M1.1 17 (12 * j) = gp_o t.1 ∧ M1.1 17 (12 * j + 1) = nI t.2.1) → (∀ y, y < 12 * j → M1.1 17 y = M.1 17 y) → ∃ M', f12_cutOne_308 (nI (stk.headD 0)) (nI S') (gp_o R.1) (nI R.2.2.1) (nI (12 * j)) s0 (nI (12 * j) + 2) M1 = some M' ∧ M'.2 = M.2 ∧ (∀ c, c ≠ 0 → c ≠ 16 → c ≠ 17 → M'.1 c = M.1 c) ∧ (∀ i, i ≠ 26 → i ≠ 28 → i ≠ 29 → i ≠ 31 → M'.1 0 i = M.1 0 i) ∧ gp_sR M' t.2.2.2.2.2.2 ∧ M'.1 0 26 = nI t.2.2.1 ∧ (∃ mo2, mo2 ≤ 5 ∧ M'.1 0 29 = nI mo2) ∧ M'.1 0 31 = nI (j + 1) ∧ gp_rK M' j t ∧ ∀ y, y < 12 * j → M'.1 17 y = M.1 17 y := by
    intro s0 M1 h0 b1 b2 b3 b5 b6
    have goo : ∀ s1 : Int32, s1 = nI (if t.2.2.2.2.1.isSome = true then t.2.2.2.1 else t.2.2.2.1 + 1) → ∃ M', f12_cutOne_330 (nI (stk.headD 0)) (nI S') (gp_o R.1) (nI R.2.2.1) (nI (12 * j)) s1 (nI (12 * j) + 3) (gz_w M1 17 (12 * j + 2) s0) = some M' ∧ M'.2 = M.2 ∧ (∀ c, c ≠ 0 → c ≠ 16 → c ≠ 17 → M'.1 c = M.1 c) ∧ (∀ i, i ≠ 26 → i ≠ 28 → i ≠ 29 → i ≠ 31 → M'.1 0 i = M.1 0 i) ∧ gp_sR M' t.2.2.2.2.2.2 ∧ M'.1 0 26 = nI t.2.2.1 ∧ (∃ mo2, mo2 ≤ 5 ∧ M'.1 0 29 = nI mo2) ∧ M'.1 0 31 = nI (j + 1) ∧ gp_rK M' j t ∧ ∀ y, y < 12 * j → M'.1 17 y = M.1 17 y := by
      intro s1 h1
      refine w330 s1 _ h1 ?_ (fun c c1 c2 => ?_) (fun i => ?_) ⟨?_, ?_, ?_⟩ (fun y hy => ?_)
      · exact b1
      · rw [gp_wc _ c2, b2 c c1 c2]
      · rw [gp_gn (by omega), b3]
      · rw [gp_gn (by omega)]; exact b5.1
      · rw [gp_gn (by omega)]; exact b5.2
      · rw [gp_gs]; exact h0
      · rw [gp_gn (by omega), b6 y hy]
    unfold f12_cutOne_308
    rw [show (2 : Int32) = nI 2 from rfl, a0, gp_ckb (by omega) (by omega), gp_eL, nI_clamp (by omega)]
    cases hd : R.2.2.2.1 with
    | none =>
      have hne : S' ≠ 0 := fun e => by have := hS2.mpr e; rw [hd] at this; cases this
      rw [if_neg (show ¬ nI S' = (0 : Int32) from fun e => hne ((nI_eq (b := 0) (by omega) (by omega)).mp e)), nI_1]
      exact goo _ (by rw [t5, hd, t4]; rfl)
    | some x =>
      have he : S' = 0 := hS2.mp (by rw [hd]; rfl)
      subst he
      rw [if_pos nI_0]
      exact goo _ (by rw [t5, hd, t4]; rfl)
  unfold f12_cutOne_250
  rw [h31, gp_eL, n12, show nI (12 * j) + 0 = nI (12 * j + 0) from a0 0, show nI (12 * j) + 1 = nI (12 * j + 1) from a0 1, gp_ckb (by omega) (by omega), gp_eL, gp_ckb (by omega) (by omega), gp_eL, nI_clamp (by omega), nI_clamp (by omega), show (gz_w M 17 (12 * j + 0) (gp_o R.1)).1 0 26 = nI p from (gp_gn (by omega)).trans h26]
  have goo : ∀ s1 : Int32, s1 = nI t.2.2.1 → ∃ M', f12_cutOne_308 (nI (stk.headD 0)) (nI S') (gp_o R.1) (nI R.2.2.1) (nI (12 * j)) s1 (nI (12 * j) + 2) (gz_w (gz_w M 17 (12 * j + 0) (gp_o R.1)) 17 (12 * j + 1) (nI p)) = some M' ∧ M'.2 = M.2 ∧ (∀ c, c ≠ 0 → c ≠ 16 → c ≠ 17 → M'.1 c = M.1 c) ∧ (∀ i, i ≠ 26 → i ≠ 28 → i ≠ 29 → i ≠ 31 → M'.1 0 i = M.1 0 i) ∧ gp_sR M' t.2.2.2.2.2.2 ∧ M'.1 0 26 = nI t.2.2.1 ∧ (∃ mo2, mo2 ≤ 5 ∧ M'.1 0 29 = nI mo2) ∧ M'.1 0 31 = nI (j + 1) ∧ gp_rK M' j t ∧ ∀ y, y < 12 * j → M'.1 17 y = M.1 17 y := by
    intro s1 h1
    refine w308 s1 _ h1 ?_ (fun c c1 c2 => ?_) (fun i => ?_) ⟨?_, ?_⟩ (fun y hy => ?_)
    · rfl
    · rw [gp_wc _ c2, gp_wc _ c2]
    · rw [gp_gn (by omega), gp_gn (by omega)]
    · rw [gp_gn (by omega), Nat.add_zero, gp_gs, t1]
    · rw [gp_gs, t2]
    · rw [gp_gn (by omega), gp_gn (by omega)]
  cases hR : R.1 with
  | none =>
    rw [hR] at goo t3
    have e : (gp_o (if (none : Option Nat).isSome = true then some R.2.1 else none)) = -1 := rfl
    rw [e, if_pos rfl, gp_gn (by omega), gp_gn (by omega), h26, nI_1]
    exact goo _ (by rw [t3]; rfl)
  | some i =>
    rw [hR] at goo t3
    have e : (gp_o (if (some i : Option Nat).isSome = true then some R.2.1 else none)) = nI R.2.1 := rfl
    rw [e, if_neg (by rw [gp_m1, gp_ne1 (by omega)]; exact id)]
    exact goo _ (by rw [t3]; rfl)
end
section
variable {k k0 k1 m S s x p q : Nat} {M M' : gz_M} {T : gp_T} {l : List Nat} {F : Nat → Nat → Bool}
theorem gq_cutOne (hw : gp_wT T) (mem : Nat) (hmem : mem < 2) (ht : gp_tR M T) (hl : gp_lR M l) {stk : List Nat} (hsk : gp_sk stk) (hs : gp_sR M stk) {mo j : Nat} (hmo2 : mo ≤ 5) (hmo : M.1 0 29 = nI mo) (hj : j < 25) (h31 : M.1 0 31 = nI j) (hp : p < l.length) (h26 : M.1 0 26 = nI p) (hF : ∀ S p', S < 2 ^ 10 → p' ≤ 24 → (F S p' = true ↔ mem = 1 ∧ M.1 19 (gp_code (stk.headD 0) S p') ≠ 0)) (R : Option Nat × Nat × Nat × Option Nat × List Nat) (hR : R = gp_rm T (stk.headD 0) F (l.drop p) p (T.2.2 8 (stk.headD 0)) none p) :
    ∃ M', f12_cutOne (nI mem) M = some M' ∧ gp_cutL M M' ∧ gp_sR M' (gp_tokO T p stk R).2.2.2.2.2.2 ∧ M'.1 0 26 = nI (gp_tokO T p stk R).2.2.1 ∧ (∃ mo2, mo2 ≤ 5 ∧ M'.1 0 29 = nI mo2) ∧ M'.1 0 31 = nI (j + 1) ∧ M'.1 0 32 = M.1 0 32 + nI (R.2.2.1 - p) ∧ gp_rK M' j (gp_tokO T p stk R) ∧ (∀ y, y < 12 * j → M'.1 17 y = M.1 17 y) ∧ (∀ y, M'.1 18 y = M.1 18 y + nI ((gp_codes (stk.headD 0) R.2.2.2.2 p).count y)) ∧ (mem = 0 → M'.1 19 = M.1 19) ∧ (mem = 1 → ∀ y, (y ∈ gp_marks (stk.headD 0) p R → M'.1 19 y = 1) ∧ (y ∉ gp_marks (stk.headD 0) p R → M'.1 19 y = M.1 19 y)) := by
  have hl1 := hl.1
  have hsk5 := hsk.2.1
  have hm : stk.headD 0 < 4 := by
    cases stk with
    | nil => exact absurd hsk.1 (by decide)
    | cons d t => exact hsk.2.2 d List.mem_cons_self
  have htop : M.1 16 (stk.length - 1) = nI (stk.headD 0) := by
    have h0 := hsk.1
    rw [hs.2 (stk.length - 1) (by omega), show stk.length - 1 - (stk.length - 1) = 0 by omega]
    cases stk <;> rfl
  have h0 := hsk.1
  obtain ⟨a1, a2, a3, a4, a5, a6, a7, a8, a9⟩ := gp_rm_f (T := T) (m := stk.headD 0) (F := F) (l.drop p) p (T.2.2 8 (stk.headD 0)) none p (by simp) (by simp)
  have hlen : (l.drop p).length = l.length - p := List.length_drop
  have hmets : ∀ S, S ∈ (gp_rm T (stk.headD 0) F (l.drop p) p (T.2.2 8 (stk.headD 0)) none p).2.2.2.2 → S < 2 ^ 10 := fun S hS => gp_lt10 hw hm (gp_rm_mets hw hm (l.drop p) p _ _ _ (fun s hs' => by
    obtain ⟨i, hi, e⟩ := List.mem_iff_getElem.mp (List.mem_of_mem_drop hs')
    have := (hl.2.2 i hi).2
    simp [List.getD, hi] at this
    rw [← e]; exact this) S hS)
  unfold f12_cutOne
  rw [hs.1, show nI stk.length - 1 = nI (stk.length - 1) by
    obtain ⟨q, e⟩ : ∃ q, stk.length = q + 1 := ⟨stk.length - 1, by omega⟩
    rw [e]; exact nI_pred q, gp_ckb (by omega) (by omega), gp_eL, gp_eL, nI_clamp (by omega), htop, h26]
  obtain ⟨S', M1, e1, e2, e3, e4⟩ := gp_cutOne_32 (F := F) hw hm mem hmem p (l.length - p) gz_FU p 0 p 0 none M (by omega) (by unfold gz_FU; omega) ht hl h26 (Nat.two_pow_pos _) (fun h => absurd rfl h) (fun _ => by omega) (Nat.le_refl _) (by omega) hF
  simp only [if_true] at e1 e3 e4
  rw [← hR] at e1 e3 e4 a1 a2 a3 a4 a5 a6 a7 a8 hmets
  have e1' : f12_cutOne_32 gz_FU (nI mem) (nI (stk.headD 0)) 0 (-1) (-1) (nI p) 0 0 M = _ := e1
  rw [e1', Nat.zero_add]
  obtain ⟨j1, j2, j3, j4, j5, j6, j7⟩ := e4
  have hlc : (gp_codes (stk.headD 0) R.2.2.2.2 p).length = R.2.2.2.2.length := gp_codes_len _ _ _
  have hRl : R.2.2.2.2.length + p ≤ l.length := by omega
  have hRb : R.1.isSome = true → R.2.1 ≤ 24 := fun h => by have := a4 h; omega
  have hR2 : R.2.1 < 2 ^ 30 ∨ R.1.isSome = false := by
    cases h : R.1.isSome
    · exact Or.inr rfl
    · exact Or.inl (by have := hRb h; omega)
  have hgt : p < R.2.2.1 := a3 (by rw [gp_drop hp]; simp)
  -- behind the marks
  have fin : ∀ M2 : gz_M, M2.2 = M1.2 → (∀ c, c ≠ 19 → M2.1 c = M1.1 c) → (mem = 0 → M2.1 19 = M.1 19) → (mem = 1 → ∀ y, (y ∈ gp_marks (stk.headD 0) p R → M2.1 19 y = 1) ∧ (y ∉ gp_marks (stk.headD 0) p R → M2.1 19 y = M.1 19 y)) → ∃ M', f12_cutOne_250 (nI (stk.headD 0)) (nI S') (gp_o (if R.1.isSome = true then some R.2.1 else none)) (gp_o R.1) (nI R.2.2.1) M2 = some M' ∧ gp_cutL M M' ∧ gp_sR M' (gp_tokO T p stk R).2.2.2.2.2.2 ∧ M'.1 0 26 = nI (gp_tokO T p stk R).2.2.1 ∧ (∃ mo2, mo2 ≤ 5 ∧ M'.1 0 29 = nI mo2) ∧ M'.1 0 31 = nI (j + 1) ∧ M'.1 0 32 = M.1 0 32 + nI (R.2.2.1 - p) ∧ gp_rK M' j (gp_tokO T p stk R) ∧ (∀ y, y < 12 * j → M'.1 17 y = M.1 17 y) ∧ (∀ y, M'.1 18 y = M.1 18 y + nI ((gp_codes (stk.headD 0) R.2.2.2.2 p).count y)) ∧ (mem = 0 → M'.1 19 = M.1 19) ∧ (mem = 1 → ∀ y, (y ∈ gp_marks (stk.headD 0) p R → M'.1 19 y = 1) ∧ (y ∉ gp_marks (stk.headD 0) p R → M'.1 19 y = M.1 19 y)) := by
    intro M2 b1 b2 b3 b4
    have m2c : ∀ c, c ≠ 0 → c ≠ 18 → c ≠ 19 → c ≠ 20 → M2.1 c = M.1 c := fun c c1 c2 c3 c4 => by rw [b2 c c3, j2 c c1 c2 c4]
    have m20 : ∀ i, i ≠ 32 → M2.1 0 i = M.1 0 i := fun i hi => by rw [b2 0 (by omega), j3 i hi]
    have ht2 : gp_tR M2 T := ht.fr (fun c c1 c2 => m2c c (by omega) (by omega) (by omega) (by omega)) (m20 _ (by omega))
    have hs2 : gp_sR M2 stk := ⟨by rw [m20 _ (by omega)]; exact hs.1, fun x hx => by rw [m2c _ (by omega) (by omega) (by omega) (by omega)]; exact hs.2 x hx⟩
    have conv : ∃ R' : Option Nat × Nat × Nat × Option Nat × List Nat, R'.1 = R.1 ∧ R'.2.2 = R.2.2 ∧ R'.2.1 < 2 ^ 30 ∧ (R.1.isSome = true → R'.2.1 = R.2.1) := by
      rcases hR2 with h | h
      · exact ⟨R, rfl, rfl, h, fun _ => rfl⟩
      · exact ⟨(R.1, 0, R.2.2), rfl, rfl, show 0 < 2 ^ 30 by decide, fun h' => by rw [h] at h'; cases h'⟩
    obtain ⟨R', r1, r2, r3, r4⟩ := conv
    obtain ⟨M', f1, f2, f3, f4, f5, f6, f7, f8, f9, f10⟩ := gq_cut250 hw ht2 hsk hs2 hmo2 (by rw [m20 _ (by omega), hmo]) hj (by rw [m20 _ (by omega), h31]) (show p < 24 by omega) (by rw [m20 _ (by omega), h26]) R' (by rw [r1]; exact a6) r3 (by rw [r2]; omega) (fun x hx => by rw [r2] at hx ⊢; exact (a7 x hx).1) e2 (by rw [r2]; exact e3)
    have eo : (if R'.1.isSome = true then some R'.2.1 else none) = (if R.1.isSome = true then some R.2.1 else none) := by
      rw [r1]
      split
      · rename_i h; rw [r4 h]
      · rfl
    have et : gp_tokO T p stk R' = gp_tokO T p stk R := by
      unfold gp_tokO
      rw [r1, r2]
      congr 3
      split
      · rename_i h; rw [r4 h]
      · rfl
    rw [eo, r1, r2] at f1
    rw [et] at f5 f6 f9
    refine ⟨M', f1, ⟨by rw [f2, b1, j1], fun c c1 c2 => by rw [f3 c c1 (by omega) (by omega), m2c c c1 (by omega) (by omega) (by omega)], fun i i1 i2 i3 i4 i5 => by rw [f4 i i1 i2 i3 i4, m20 i i5]⟩, f5, f6, f7, f8, ?_, f9, fun y hy => by rw [f10 y hy, m2c _ (by omega) (by omega) (by omega) (by omega)], fun y => ?_, fun h => ?_, fun h y => ?_⟩
    · rw [f4 _ (by omega) (by omega) (by omega) (by omega), b2 _ (by omega), j4]
    · rw [f3 _ (by omega) (by omega) (by omega), b2 _ (by omega), j7]
    · rw [f3 _ (by omega) (by omega) (by omega), b3 h]
    · rw [f3 _ (by omega) (by omega) (by omega)]
      exact b4 h y
  unfold f12_cutOne_190
  have hm2 : mem = 0 ∨ mem = 1 := by omega
  rcases hm2 with h | h
  · subst h
    rw [if_pos nI_0]
    exact fin M1 rfl (fun _ _ => rfl) (fun _ => j2 _ (by omega) (by omega) (by omega)) (fun h => absurd h (by decide))
  · subst h
    rw [if_neg (by decide), ← hlc]
    have hcl : ∀ i, i < (gp_codes (stk.headD 0) R.2.2.2.2 p).length → (gp_codes (stk.headD 0) R.2.2.2.2 p).getD i 0 < 102400 := fun i hi => by
      exact gp_codes_lt hm R.2.2.2.2 p hmets (by omega) _ (gp_getD_mem hi)
    have hla : ∀ b, (if R.1.isSome = true then some R.2.1 else none) = some b → b ≤ 24 := by
      intro b hb
      split at hb
      · rename_i h
        cases hb
        exact hRb h
      · cases hb
    obtain ⟨M2, g1, g2, g3, g4⟩ := gp_cut197 p (by omega) (gp_codes (stk.headD 0) R.2.2.2.2 p) (by omega) hcl (if R.1.isSome = true then some R.2.1 else none) hla (nI (stk.headD 0)) (nI S') (gp_o R.1) (nI R.2.2.1) (gp_codes (stk.headD 0) R.2.2.2.2 p).length gz_FU 0 M1 (by omega) (by unfold gz_FU; omega) (by rw [j3 _ (by omega), h26]) (fun i hi => by have := j6 i hi; rwa [Nat.zero_add] at this)
    have g1' : f12_cutOne_197 gz_FU (nI (stk.headD 0)) (nI S') (gp_o (if R.1.isSome = true then some R.2.1 else none)) (gp_o R.1) (nI R.2.2.1) (nI (gp_codes (stk.headD 0) R.2.2.2.2 p).length) 0 M1 = _ := g1
    rw [g1']
    refine fin M2 g2 g3 (fun h => absurd h (by decide)) (fun _ y => ?_)
    have hk : (if R.1.isSome = true then some R.2.1 else none).getD p = (if R.1.isSome = true then R.2.1 else p) := by split <;> rfl
    have hmk : (∃ i, 0 ≤ i ∧ i < (gp_codes (stk.headD 0) R.2.2.2.2 p).length ∧ (if R.1.isSome = true then some R.2.1 else none).getD p < p + 1 + i ∧ y = (gp_codes (stk.headD 0) R.2.2.2.2 p).getD i 0) ↔ y ∈ gp_marks (stk.headD 0) p R := by
      unfold gp_marks
      rw [gp_mem_drop (d := 0), hk]
      constructor
      · rintro ⟨i, _, b, c, e⟩
        exact ⟨i, by omega, b, e⟩
      · rintro ⟨i, a, b, e⟩
        exact ⟨i, by omega, b, by omega, e⟩
    have := g4 y
    rw [hmk] at this
    rw [j2 _ (by omega) (by omega) (by omega)] at this
    exact this
end
end
section
/-! changes: what is refused, what is done -/
def gq_can (kd : Nat) (l : List Nat) (j z : Nat) : Prop := z < 8 ∧ (kd = 0 → j < l.length ∧ l.getD j 0 ≠ z) ∧ (kd = 1 → j ≤ l.length ∧ l.length < 24) ∧ (kd = 2 → j < l.length)
def gq_chg (kd : Nat) (l : List Nat) (j z : Nat) : List Nat := if kd = 0 then l.set j z else if kd = 1 then gp_ins l j z else gp_del l j
section
variable {M M' N : gz_M} {l : List Nat} {k kd j z : Nat} {q s : Int32}
theorem gq_26b (h : s < 0 ∨ 8 ≤ s) (x1 q s0 : Int32) : f5_refusal_26 k x1 q s s0 M = some (-1, M) := by
  unfold f5_refusal_26
  have e : f5_refusal_43 k x1 q s s0 0 M = some (-1, M) := by
    unfold f5_refusal_43
    split
    · rfl
    · rfl
  by_cases h0 : s < 0
  · rw [if_pos h0, e]
  · rw [if_neg h0, if_pos (h.resolve_left h0), e]
theorem gq_26g (hz : z < 8) (x1 q s0 : Int32) : f5_refusal_26 k x1 q (nI z) s0 M = f5_refusal_43 k x1 q (nI z) s0 1 M := by
  unfold f5_refusal_26
  rw [if_neg (nI_pos (by omega)), if_neg (show ¬ (8 : Int32) ≤ nI z from nI_ge (b := 8) hz (by omega))]
theorem gq_43n (x1 q s : Int32) : f5_refusal_43 k x1 q s 0 1 M = some (-1, M) := by
  unfold f5_refusal_43
  rw [if_pos rfl]
theorem gq_in7 (N : gz_M) : (∀ s : Int32, (s < 0 ∨ 8 ≤ s) → f12_in s 0 7 N = some (0, N)) ∧ ∀ z, z < 8 → f12_in (nI z) 0 7 N = some (1, N) := by
  have e7 : (7 : Int32) = nI 8 - 1 := by decide
  refine ⟨fun s h => ?_, fun z hz => ?_⟩
  · rcases h with h | h
    · exact gp_in0 _ _ h
    · rw [e7]
      exact gp_in0b _ (by omega) (gp_neg_of (n := 8) (by omega) h) h
  · rw [e7]
    exact gp_in1 _ (by omega) hz
theorem gq_ref (hc : gp_lC k M l) (hr : gp_lR N l) (hk : kd < 3) (q s : Int32) (hs : kd = 2 → s = 0) : (∃ v : Int32, ¬ 0 ≤ v ∧ ¬ v = 0 ∧ f5_refusal k (nI kd) q s M = some (v, M) ∧ f12_refuses (nI kd) q s N = some (v, N)) ∨ (∃ j z, q = nI j ∧ s = nI z ∧ gq_can kd l j z ∧ f5_refusal k (nI kd) q s M = some (0, M) ∧ f12_refuses (nI kd) q s N = some (0, N)) := by
  have h24 := hc.1
  have hlr := hr.2.1
  obtain ⟨i7b, i7g⟩ := gq_in7 N
  have nowR : N.1 1 (81 : Int32).toNatClampNeg = nI l.length := hlr
  -- the place
  have pl : (∃ j, j < l.length ∧ q = nI j ∧ f5_has k q M = some (1, M) ∧ f12_in q 0 (nI l.length - 1) N = some (1, N)) ∨ (f5_has k q M = some (0, M) ∧ f12_in q 0 (nI l.length - 1) N = some (0, N)) := by
    rcases gp_has hc q with ⟨a, b⟩ | ⟨a, b, c⟩ | ⟨j, a, b, c⟩
    · exact Or.inr ⟨b, gp_in0 _ _ a⟩
    · exact Or.inr ⟨c, gp_in0b _ (by omega) a b⟩
    · refine Or.inl ⟨j, a, b, c, ?_⟩
      rw [b]
      exact gp_in1 _ (by omega) a
  -- the sign
  have sg : (s < 0 ∨ 8 ≤ s) ∨ ∃ z, z < 8 ∧ s = nI z := by
    rcases pk_ix s (n := 8) (by omega) with h | h | ⟨z, h1, h2⟩
    · exact Or.inl (Or.inl h)
    · exact Or.inl (Or.inr h)
    · exact Or.inr ⟨z, h1, h2⟩
  have neg1 : ¬ (0 : Int32) ≤ -1 ∧ ¬ (-1 : Int32) = 0 := by decide
  have neg2 : ¬ (0 : Int32) ≤ -2 ∧ ¬ (-2 : Int32) = 0 := by decide
  have neg3 : ¬ (0 : Int32) ≤ -3 ∧ ¬ (-3 : Int32) = 0 := by decide
  obtain h | h | h : kd = 0 ∨ kd = 1 ∨ kd = 2 := by omega
  · subst h
    have r0 : f12_refuses (nI 0) q s N = (gz_bd2 (f12_refusesBecome q s N) fun v2 M3 => some (v2, M3)) := by unfold f12_refuses; rw [if_pos (show nI 0 = (0 : Int32) from rfl)]
    rcases pl with ⟨j, hj, rfl, e1, e2⟩ | ⟨e1, e2⟩
    · have c0 : f5_refusal k (nI 0) (nI j) s M = f5_refusal_26 k (nI 0) (nI j) s 1 M := by unfold f5_refusal; rw [e1, gp_eB2, if_neg (by decide)]
      rcases sg with sb | ⟨z, hz, rfl⟩
      · refine Or.inl ⟨-1, neg1.1, neg1.2, by rw [c0, gq_26b sb], ?_⟩
        rw [r0]
        unfold f12_refusesBecome
        rw [gp_c81, nowR, e2, gp_eB2, if_neg (by decide), i7b s sb, gp_eB2, if_pos rfl, gp_eB2]
      · have c1 : f5_refusal k (nI 0) (nI j) (nI z) M = if nI (l.getD j 0) = nI z then some (-2, M) else some (0, M) := by
          rw [c0, gq_26g hz]
          unfold f5_refusal_43
          rw [if_neg (by decide), if_neg (by decide), if_pos (show nI 0 = (0 : Int32) from rfl), gp_lget hc hj, gp_eB2]
          unfold f5_refusal_73
          rw [if_neg (show ¬ nI 0 = (1 : Int32) by decide)]
        have r1 : f12_refuses (nI 0) (nI j) (nI z) N = if nI (l.getD j 0) = nI z then some (-2, N) else some (0, N) := by
          rw [r0]
          unfold f12_refusesBecome
          rw [gp_c81, nowR, e2, gp_eB2, if_neg (by decide), i7g z hz, gp_eB2, if_neg (by decide), show (82 : Int32) = nI 82 from rfl, nI_add, gp_ckb (show 82 + j < 106 by omega) (by omega), nI_clamp (by omega), (hr.2.2 j hj).1]
          split <;> rfl
        have hv := (hr.2.2 j hj).2
        by_cases hz2 : l.getD j 0 = z
        · rw [if_pos (by rw [hz2])] at c1 r1
          exact Or.inl ⟨-2, neg2.1, neg2.2, c1, r1⟩
        · rw [if_neg (fun g => hz2 ((nI_eq (by omega) (by omega)).mp g))] at c1 r1
          exact Or.inr ⟨j, z, rfl, rfl, ⟨hz, fun _ => ⟨hj, hz2⟩, fun h => by omega, fun h => by omega⟩, c1, r1⟩
    · refine Or.inl ⟨-1, neg1.1, neg1.2, ?_, ?_⟩
      · unfold f5_refusal
        rw [e1, gp_eB2, if_pos rfl, if_neg (by decide)]
        rcases sg with sb | ⟨z, hz, rfl⟩
        · exact gq_26b sb _ _ _
        · rw [gq_26g hz, gq_43n]
      · rw [r0]
        unfold f12_refusesBecome
        rw [gp_c81, nowR, e2, gp_eB2, if_pos rfl, gp_eB2]
  · subst h
    have r0 : f12_refuses (nI 1) q s N = (gz_bd2 (f12_refusesCome q s N) fun v2 M3 => some (v2, M3)) := by unfold f12_refuses; rw [if_neg (by decide), if_pos (show nI 1 = (1 : Int32) from rfl)]
    have pl2 : (∃ j, j ≤ l.length ∧ q = nI j ∧ f5_refusal k (nI 1) q s M = f5_refusal_26 k (nI 1) q s 1 M ∧ f12_in q 0 (nI l.length) N = some (1, N)) ∨ (f5_refusal k (nI 1) q s M = f5_refusal_26 k (nI 1) q s 0 M ∧ f12_in q 0 (nI l.length) N = some (0, N)) := by
      unfold f5_refusal
      rcases gp_has hc q with ⟨a, b⟩ | ⟨a, b, c⟩ | ⟨j, a, b, c⟩
      · refine Or.inr ⟨?_, gp_in0 _ _ a⟩
        rw [b, gp_eB2, if_pos rfl, if_pos (show nI 1 = (1 : Int32) from rfl), hc.2.1, if_neg (fun g => by rw [g] at a; exact nI_pos (by omega) a)]
      · by_cases hq : q = nI l.length
        · refine Or.inl ⟨l.length, Nat.le_refl _, hq, ?_, ?_⟩
          · rw [c, gp_eB2, if_pos rfl, if_pos (show nI 1 = (1 : Int32) from rfl), hc.2.1, if_pos hq]
          · unfold f12_in
            rw [if_neg a, hq, if_neg (nI_nlt (Nat.le_refl _) (by omega))]
        · refine Or.inr ⟨?_, ?_⟩
          · rw [c, gp_eB2, if_pos rfl, if_pos (show nI 1 = (1 : Int32) from rfl), hc.2.1, if_neg hq]
          · unfold f12_in
            rw [if_neg a, if_pos]
            apply Int32.lt_iff_toInt_lt.mpr
            have g1 := Int32.le_iff_toInt_le.mp b
            have g2 : (nI l.length).toInt ≠ q.toInt := fun h => hq (Int32.toInt_inj.mp h).symm
            omega
      · refine Or.inl ⟨j, by omega, b, ?_, ?_⟩
        · rw [c, gp_eB2, if_neg (by decide)]
        · unfold f12_in
          rw [b, if_neg (nI_pos (by omega)), if_neg (nI_nlt (by omega) (by omega))]
    rcases pl2 with ⟨j, hj, rfl, c0, e2⟩ | ⟨c0, e2⟩
    · rcases sg with sb | ⟨z, hz, rfl⟩
      · refine Or.inl ⟨-1, neg1.1, neg1.2, by rw [c0, gq_26b sb], ?_⟩
        rw [r0]
        unfold f12_refusesCome
        rw [gp_c81, nowR, e2, gp_eB2, if_neg (by decide), i7b s sb, gp_eB2, if_pos rfl, gp_eB2]
      · have c1 : f5_refusal k (nI 1) (nI j) (nI z) M = if l.length < 24 then some (0, M) else some (-3, M) := by
          rw [c0, gq_26g hz]
          unfold f5_refusal_43 f5_refusal_73
          rw [if_neg (by decide), if_neg (by decide), if_neg (show ¬ nI 1 = (0 : Int32) by decide), if_pos (show nI 1 = (1 : Int32) from rfl), hc.2.1]
          by_cases h : l.length < 24
          · rw [if_pos h, if_pos (show nI l.length < (24 : Int32) from nI_lt (b := 24) h (by omega))]
          · rw [if_neg h, if_neg (show ¬ nI l.length < (24 : Int32) from nI_nlt (b := 24) (by omega) (by omega))]
        have r1 : f12_refuses (nI 1) (nI j) (nI z) N = if l.length < 24 then some (0, N) else some (-3, N) := by
          rw [r0]
          unfold f12_refusesCome
          rw [gp_c81, nowR, e2, gp_eB2, if_neg (by decide), i7g z hz, gp_eB2, if_neg (by decide), gp_c81, nowR]
          by_cases h : l.length < 24
          · rw [if_pos h, if_neg (show ¬ nI l.length = (24 : Int32) from fun g => by have := (nI_eq (b := 24) (by omega) (by omega)).mp g; omega), gp_eB2]
          · rw [if_neg h, if_pos (show nI l.length = (24 : Int32) from by rw [show l.length = 24 by omega]; rfl), gp_eB2]
        by_cases h : l.length < 24
        · rw [if_pos h] at c1 r1
          exact Or.inr ⟨j, z, rfl, rfl, ⟨hz, fun g => by omega, fun _ => ⟨hj, h⟩, fun g => by omega⟩, c1, r1⟩
        · rw [if_neg h] at c1 r1
          exact Or.inl ⟨-3, neg3.1, neg3.2, c1, r1⟩
    · refine Or.inl ⟨-1, neg1.1, neg1.2, ?_, ?_⟩
      · rw [c0]
        rcases sg with sb | ⟨z, hz, rfl⟩
        · exact gq_26b sb _ _ _
        · rw [gq_26g hz, gq_43n]
      · rw [r0]
        unfold f12_refusesCome
        rw [gp_c81, nowR, e2, gp_eB2, if_pos rfl, gp_eB2]
  · subst h
    have hs0 := hs rfl
    subst hs0
    have r0 : f12_refuses (nI 2) q 0 N = (gz_bd2 (f12_in q 0 (nI l.length - 1) N) fun v10 M11 => if v10 = 0 then (some ((-1), M11)) else (some (0, M11))) := by
      unfold f12_refuses
      rw [if_neg (by decide), if_neg (by decide), gp_c81, nowR]
    rcases pl with ⟨j, hj, rfl, e1, e2⟩ | ⟨e1, e2⟩
    · refine Or.inr ⟨j, 0, rfl, rfl, ⟨by omega, fun g => by omega, fun g => by omega, fun _ => hj⟩, ?_, ?_⟩
      · unfold f5_refusal
        rw [e1, gp_eB2, if_neg (by decide), show (0 : Int32) = nI 0 from rfl, gq_26g (by omega)]
        unfold f5_refusal_43 f5_refusal_73
        rw [if_neg (by decide), if_neg (by decide), if_neg (show ¬ nI 2 = (0 : Int32) by decide), if_neg (show ¬ nI 2 = (1 : Int32) by decide)]
        rfl
      · rw [r0, e2, gp_eB2, if_neg (by decide)]
    · refine Or.inl ⟨-1, neg1.1, neg1.2, ?_, ?_⟩
      · unfold f5_refusal
        rw [e1, gp_eB2, if_pos rfl, if_neg (by decide), show (0 : Int32) = nI 0 from rfl, gq_26g (by omega)]
        exact gq_43n _ _ _
      · rw [r0, e2, gp_eB2, if_pos rfl]
theorem gq_chg_len (hk : kd < 3) (h : gq_can kd l j z) (hl : l.length ≤ 24) : (gq_chg kd l j z).length ≤ 24 ∧ (kd = 0 → (gq_chg kd l j z).length = l.length) ∧ (kd = 1 → (gq_chg kd l j z).length = l.length + 1) ∧ (kd = 2 → (gq_chg kd l j z).length + 1 = l.length) := by
  obtain ⟨h1, h2, h3, h4⟩ := h
  obtain h | h | h : kd = 0 ∨ kd = 1 ∨ kd = 2 := by omega
  · subst h
    unfold gq_chg
    rw [if_pos rfl]
    refine ⟨by simpa using hl, fun _ => by simp, fun g => by omega, fun g => by omega⟩
  · subst h
    have := h3 rfl
    unfold gq_chg
    rw [if_neg (by omega), if_pos rfl]
    have e := gp_ins_len (s := z) this.1
    exact ⟨by omega, fun g => by omega, fun _ => e, fun g => by omega⟩
  · subst h
    have := h4 rfl
    unfold gq_chg
    rw [if_neg (by omega), if_neg (by omega)]
    have e := gp_del_len this
    exact ⟨by omega, fun g => by omega, fun g => by omega, fun _ => by omega⟩
theorem gq_doC (hk : kd < 3) (hc : gp_lC k M l) (h : gq_can kd l j z) (hr : f5_refusal k (nI kd) (nI j) (nI z) M = some (0, M)) : ∃ M', f5_change k (nI kd) (nI j) (nI z) M = some M' ∧ gp_lL k M M' ∧ gp_lC k M' (gq_chg kd l j z) := by
  obtain ⟨h1, h2, h3, h4⟩ := h
  unfold f5_change
  rw [hr, gp_eB2, if_pos (by decide)]
  unfold gq_chg
  obtain h | h | h : kd = 0 ∨ kd = 1 ∨ kd = 2 := by omega
  · subst h
    obtain ⟨M', a, b, c⟩ := gp_putC hc (h2 rfl).1 h1
    rw [if_pos (show nI 0 = (0 : Int32) from rfl), a, gp_eB, if_pos rfl]
    exact ⟨M', rfl, b, c⟩
  · subst h
    obtain ⟨M', a, b, c⟩ := gp_insC hc (h3 rfl).1 h1 (h3 rfl).2
    rw [if_neg (by decide), if_pos (show nI 1 = (1 : Int32) from rfl), a, gp_eB, if_neg (by omega), if_pos rfl]
    exact ⟨M', rfl, b, c⟩
  · subst h
    obtain ⟨M', a, b, c⟩ := gp_delC hc (h4 rfl)
    rw [if_neg (by decide), if_neg (by decide), a, gp_eB, if_neg (by omega), if_neg (by omega)]
    exact ⟨M', rfl, b, c⟩
theorem gq_doR (hk : kd < 3) (hr : gp_lR N l) (h : gq_can kd l j z) : ∃ N', f12_doChange (nI kd) (nI j) (nI z) N = some N' ∧ N'.2 = N.2 ∧ (∀ c, c ≠ 1 → N'.1 c = N.1 c) ∧ (∀ i, i < 81 → N'.1 1 i = N.1 1 i) ∧ gp_lR N' (gq_chg kd l j z) := by
  obtain ⟨h1, h2, h3, h4⟩ := h
  have h24 := hr.1
  have e82 : (82 : Int32) + nI j = nI (82 + j) := by rw [show (82 : Int32) = nI 82 from rfl, nI_add]
  unfold f12_doChange gq_chg
  obtain h | h | h : kd = 0 ∨ kd = 1 ∨ kd = 2 := by omega
  · subst h
    have hj := (h2 rfl).1
    rw [if_pos (show nI 0 = (0 : Int32) from rfl), e82, gp_ckb (show 82 + j < 106 by omega) (by omega), nI_clamp (by omega), gp_eL, if_pos rfl]
    unfold f12_doChange_14 f12_doChange_83
    rw [if_neg (by decide), if_neg (by decide)]
    refine ⟨_, rfl, rfl, fun c hc => gp_wc _ hc, fun i hi => gp_gn (by omega), by simpa using h24, by rw [gp_gn (by omega)]; simpa using hr.2.1, fun i hi => ?_⟩
    have hi : i < l.length := by simpa using hi
    rw [gp_set_D hj]
    by_cases e : i = j
    · rw [e, gp_gs, if_pos rfl]
      exact ⟨rfl, h1⟩
    · rw [gp_gn (by omega), if_neg e]
      exact hr.2.2 i hi
  · subst h
    obtain ⟨hj, hl⟩ := h3 rfl
    rw [if_neg (by decide)]
    unfold f12_doChange_14
    rw [if_pos (show nI 1 = (1 : Int32) from rfl), gp_c81, gp_k81, hr.2.1, gp_eL]
    have e := gp_dnL (fun n y M => f12_doChange_28 n (nI 1) (nI j) (nI z) y M) (fun M1 => some (gz_w (gz_w M1 1 (82 + j) (nI z)) 1 81 (nI (l.length + 1)))) N 1 82 j l.length hj (fun n => by
      show f12_doChange_28 (n + 1) _ _ _ _ _ = _
      rw [f12_doChange_28, if_pos (nI_le (Nat.le_refl _) (by omega)), e82, gp_ckb (show 82 + j < 106 by omega) (by omega), nI_clamp (by omega), gp_eL, gp_c81, gp_c81, gp_k81, gp_gn (by omega), gp_shd_i, if_neg (by omega), hr.2.1, nI_1, gp_eL]
      unfold f12_doChange_83
      rw [if_neg (by decide)]) (fun n y g1 g2 => by
      show f12_doChange_28 (n + 1) _ _ _ _ _ = f12_doChange_28 n _ _ _ _ _
      have e1 : (82 : Int32) + nI (y + 1) = nI ((82 + y) + 1) := by rw [show (82 : Int32) = nI 82 from rfl, nI_add]; rfl
      rw [f12_doChange_28, if_neg (nI_ge (by omega) (by omega)), e1, nI_pred, gp_ckb (show 82 + y < 106 by omega) (by omega), gp_ckb (show 82 + y + 1 < 106 by omega) (by omega), nI_clamp (by omega), nI_clamp (by omega), gp_shd_i, if_neg (by omega), gp_eL, gp_eL, gp_addm]
      rfl) (by unfold gz_FU; omega)
    rw [if_neg (by omega), if_pos rfl]
    refine ⟨_, e, rfl, fun c hc => by rw [gp_wc _ hc, gp_wc _ hc, gp_shd_c hc], fun i hi => by rw [gp_gn (by omega), gp_gn (by omega), gp_shd_i, if_neg (by omega)], by rw [gp_ins_len hj]; omega, by rw [gp_gs, gp_ins_len hj], fun i hi => ?_⟩
    rw [gp_ins_len hj] at hi
    rw [gp_gn (by omega), gp_ins_D hj]
    by_cases e1 : i = j
    · rw [e1, gp_gs, if_neg (by omega), if_pos rfl]
      exact ⟨rfl, h1⟩
    · rw [gp_gn (by omega), gp_shd_i]
      by_cases e2 : i < j
      · rw [if_neg (by omega), if_pos e2]
        exact hr.2.2 i (by omega)
      · rw [if_pos (by omega), if_neg e2, if_neg e1, show 82 + i - 1 = 82 + (i - 1) by omega]
        exact hr.2.2 (i - 1) (by omega)
  · subst h
    have hj := h4 rfl
    have hlen : nI l.length - 1 = nI (l.length - 1) := by
      obtain ⟨w, hw⟩ : ∃ w, l.length = w + 1 := ⟨l.length - 1, by omega⟩
      rw [hw, nI_pred]
      rfl
    rw [if_neg (by decide)]
    unfold f12_doChange_14 f12_doChange_83
    rw [if_neg (by decide), if_pos (show nI 2 = (2 : Int32) from rfl)]
    have e := gp_fl_l (M := N) (c := 1) (o := 82 + j) (N := l.length - 1 - j) (v := fun x => N.1 1 (82 + j + x + 1)) (fun n x M => f12_doChange_92 n (nI j + x) M) (fun M1 => some (gz_w (gz_w M1 1 81 (nI (l.length - 1))) 1 (82 + (l.length - 1)) 0)) (fun n => by
      show f12_doChange_92 (n + 1) _ _ = _
      have e81 : (82 : Int32) + nI (l.length - 1) = nI (82 + (l.length - 1)) := by rw [show (82 : Int32) = nI 82 from rfl, nI_add]
      rw [nI_add, f12_doChange_92, gp_c81, gp_k81, gp_fl_n (by omega), hr.2.1, hlen, if_pos (nI_le (by omega) (by omega)), gp_c81, gp_c81, gp_eL, gp_c81, gp_gs, e81, gp_ckb (show 82 + (l.length - 1) < 106 by omega) (by omega), nI_clamp (by omega), gp_eL]) (fun n x hx => by
      show f12_doChange_92 (n + 1) _ _ = f12_doChange_92 n _ _
      have e1 : (82 : Int32) + nI (j + x) = nI (82 + j + x) := by rw [show (82 : Int32) = nI 82 from rfl, nI_add, Nat.add_assoc]
      rw [nI_add, nI_add, f12_doChange_92, gp_c81, gp_k81, gp_fl_n (by omega), hr.2.1, hlen, if_neg (nI_ge (by omega) (by omega)), e1, nI_1, gp_ckb (show 82 + j + x + 1 < 106 by omega) (by omega), gp_ckb (show 82 + j + x < 106 by omega) (by omega), nI_clamp (by omega), nI_clamp (by omega), gp_fl_n (by omega), gp_eL, gp_eL, nI_1]
      rfl) gz_FU (by unfold gz_FU; omega)
    change f12_doChange_92 gz_FU (nI j + nI 0) N = _ at e
    rw [nI_add, Nat.add_zero] at e
    rw [if_neg (by omega), if_neg (by omega)]
    refine ⟨_, e, rfl, fun c hc => by rw [gp_wc _ hc, gp_wc _ hc, gp_fl_c hc], fun i hi => by rw [gp_gn (by omega), gp_gn (by omega), gp_fl_n (by omega)], by rw [gp_del_len hj]; omega, by rw [gp_gn (by omega), gp_gs, gp_del_len hj], fun i hi => ?_⟩
    rw [gp_del_len hj] at hi
    rw [gp_gn (by omega), gp_gn (by omega), gp_del_D hj]
    by_cases e2 : i < j
    · rw [gp_fl_n (by omega), if_pos e2]
      exact hr.2.2 i (by omega)
    · rw [if_neg e2]
      obtain ⟨w, rfl⟩ : ∃ w, i = j + w := ⟨i - j, by omega⟩
      rw [show 82 + (j + w) = 82 + j + w by omega, gp_fl_i (by omega), show 82 + j + w + 1 = 82 + (j + w + 1) by omega]
      exact hr.2.2 (j + w + 1) (by omega)
end
end
section
/-! changes: tokens that are kept, met -/
section
variable {T : gp_T} {l l' : List Nat} {m q p n : Nat}
theorem gq_F0 (S p : Nat) : ¬ gp_F0 S p = true := by simp [gp_F0]
theorem gq_dead_ge : ∀ (L : List Nat) (q nx : Nat) (r : Option Nat) (b x : Nat), (gp_rm T m gp_F0 L q nx r b).2.2.2.1 = some x → q ≤ x
  | [], q, nx, r, b, x, h => by cases h
  | s :: L, q, nx, r, b, x, h => by
    rw [gp_rm] at h
    by_cases h0 : nx &&& T.2.2 (15 + m) s = 0
    · rw [if_pos h0] at h
      cases h
      exact Nat.le_refl _
    · rw [if_neg h0, if_neg (gq_F0 _ _)] at h
      have := gq_dead_ge L (q + 1) _ _ _ x h
      omega
/-- reading looks at no sign behind the dead one -/
theorem gq_rm_pre : ∀ (L L' : List Nat) (q nx : Nat) (r : Option Nat) (b x : Nat), (gp_rm T m gp_F0 L q nx r b).2.2.2.1 = some x → (∀ i, q + i ≤ x → L'[i]? = L[i]?) → gp_rm T m gp_F0 L' q nx r b = gp_rm T m gp_F0 L q nx r b
  | [], L', q, nx, r, b, x, h, _ => by cases h
  | s :: L, L', q, nx, r, b, x, h, e => by
    have hqx := gq_dead_ge (s :: L) q nx r b x h
    have e0 := e 0 (by omega)
    rw [List.getElem?_cons_zero] at e0
    cases L' with
    | nil => cases e0
    | cons s' L1 =>
      rw [List.getElem?_cons_zero] at e0
      cases e0
      rw [gp_rm] at h
      rw [gp_rm, gp_rm]
      by_cases h0 : nx &&& T.2.2 (15 + m) s = 0
      · rw [if_pos h0, if_pos h0]
      · rw [if_neg h0, if_neg (gq_F0 _ _)] at h
        rw [if_neg h0, if_neg (gq_F0 _ _), if_neg h0, if_neg (gq_F0 _ _)]
        rw [gq_rm_pre L L1 (q + 1) _ _ _ x h (fun i hi => by
          have := e (i + 1) (by omega)
          rwa [List.getElem?_cons_succ, List.getElem?_cons_succ] at this)]
theorem gq_tok_pre {stk : List Nat} {x : Nat} (h : (gp_tok T l p stk).2.2.2.2.1 = some x) (e : ∀ i, i ≤ x → l'[i]? = l[i]?) : gp_tok T l' p stk = gp_tok T l p stk := by
  unfold gp_tok
  rw [gq_rm_pre (l.drop p) (l'.drop p) p _ _ _ x h (fun i hi => by rw [List.getElem?_drop, List.getElem?_drop]; exact e _ hi)]
/-- tokens whose reach is not above q are cut again as they were -/
theorem gq_keep (hw : gp_wT T) (hq : q ≤ l.length) (hq' : q ≤ l'.length) (e : ∀ i, i < q → l'[i]? = l[i]?) : ∀ (n p : Nat) (stk : List Nat), gp_sk stk → (gp_cutF T l' n p stk).take (gp_ahd q (gp_cutF T l n p stk)) = (gp_cutF T l n p stk).take (gp_ahd q (gp_cutF T l n p stk)) ∧ gp_ahd q (gp_cutF T l n p stk) ≤ (gp_cutF T l' n p stk).length
  | 0, p, stk, _ => ⟨rfl, Nat.le_refl _⟩
  | n + 1, p, stk, hs => by
    rw [gp_cutF]
    by_cases hp : p < l.length
    · rw [if_pos hp, gp_ahd]
      have hok := gp_tok_ok (T := T) hw hp hs
      have hnx : (gp_tok T l p stk).2.1 = p := rfl
      by_cases hr : gp_rch (gp_tok T l p stk) ≤ q
      · obtain ⟨x, hx⟩ : ∃ x, (gp_tok T l p stk).2.2.2.2.1 = some x := by
          cases hd : (gp_tok T l p stk).2.2.2.2.1 with
          | some x => exact ⟨x, rfl⟩
          | none =>
            exfalso
            have h1 := hok.2.2.2.2.2.1 hd
            unfold gp_rch at hr
            rw [hd] at hr
            simp at hr
            omega
        obtain ⟨x1, x2⟩ := hok.2.2.2.2.1 x hx
        have hxq : x < q := by
          unfold gp_rch at hr
          rw [hx] at hr
          simp at hr
          omega
        have ht : gp_tok T l' p stk = gp_tok T l p stk := gq_tok_pre hx (fun i hi => e i (by omega))
        rw [if_pos hr, gp_cutF, if_pos (show p < l'.length by omega), ht, List.take_succ_cons, List.take_succ_cons]
        obtain ⟨a, b⟩ := gq_keep hw hq hq' e n (gp_tok T l p stk).2.2.1 (gp_tok T l p stk).2.2.2.2.2.2 hok.2.2.2.2.2.2.2
        exact ⟨by rw [a], by rw [List.length_cons]; omega⟩
      · rw [if_neg hr]
        exact ⟨rfl, Nat.zero_le _⟩
    · rw [if_neg hp]
      exact ⟨rfl, Nat.zero_le _⟩
/-- the place and the modes behind so many tokens -/
def gq_pl (p : Nat) (ts : List gp_K) (k : Nat) : Nat := if k = 0 then p else (ts.getD (k - 1) gp_k0).2.2.1
def gq_st (stk : List Nat) (ts : List gp_K) (k : Nat) : List Nat := if k = 0 then stk else (ts.getD (k - 1) gp_k0).2.2.2.2.2.2
theorem gq_dropF : ∀ (n p : Nat) (stk : List Nat) (k : Nat), k ≤ (gp_cutF T l n p stk).length → (gp_cutF T l n p stk).drop k = gp_cutF T l (n - k) (gq_pl p (gp_cutF T l n p stk) k) (gq_st stk (gp_cutF T l n p stk) k)
  | n, p, stk, 0, _ => by
    unfold gq_pl gq_st
    rw [if_pos rfl, if_pos rfl, List.drop_zero, Nat.sub_zero]
  | 0, p, stk, k + 1, h => by
    rw [gp_cutF] at h
    simp at h
  | n + 1, p, stk, k + 1, h => by
    rw [gp_cutF] at h ⊢
    by_cases hp : p < l.length
    · rw [if_pos hp] at h ⊢
      rw [List.length_cons] at h
      rw [List.drop_succ_cons, gq_dropF n _ _ k (by omega), show n + 1 - (k + 1) = n - k by omega]
      unfold gq_pl gq_st
      rw [if_neg (show ¬ k + 1 = 0 by omega), if_neg (show ¬ k + 1 = 0 by omega), Nat.add_sub_cancel]
      cases k with
      | zero => rfl
      | succ k =>
        rw [if_neg (by omega), if_neg (by omega), Nat.add_sub_cancel]
        simp [List.getD]
    · rw [if_neg hp] at h
      simp at h
/-- tokens end one behind another -/
theorem gq_sortF (hw : gp_wT T) : ∀ (n p : Nat) (stk : List Nat), gp_sk stk → (∀ t, t ∈ gp_cutF T l n p stk → p < t.2.2.1) ∧ (gp_cutF T l n p stk).Pairwise (fun a b => a.2.2.1 < b.2.2.1)
  | 0, p, stk, _ => ⟨fun t h => (by cases h), List.Pairwise.nil⟩
  | n + 1, p, stk, hs => by
    rw [gp_cutF]
    by_cases hp : p < l.length
    · rw [if_pos hp]
      have hok := gp_tok_ok (T := T) hw hp hs
      have hnx : (gp_tok T l p stk).2.1 = p := rfl
      obtain ⟨a, b⟩ := gq_sortF hw n (gp_tok T l p stk).2.2.1 (gp_tok T l p stk).2.2.2.2.2.2 hok.2.2.2.2.2.2.2
      have h1 := hok.1
      refine ⟨fun t ht => ?_, List.Pairwise.cons (fun t ht => a t ht) b⟩
      rcases List.mem_cons.mp ht with rfl | ht
      · omega
      · have := a t ht
        omega
    · rw [if_neg hp]
      exact ⟨fun t h => (by cases h), List.Pairwise.nil⟩
theorem gq_sort (hw : gp_wT T) {i k : Nat} (hik : i < k) (hk : k < (gp_cut T l).length) : ((gp_cut T l).getD i gp_k0).2.2.1 < ((gp_cut T l).getD k gp_k0).2.2.1 := by
  have h := (gq_sortF (l := l) hw 24 0 [0] gp_sk0).2
  have := List.pairwise_iff_getElem.mp h i k (show i < (gp_cutF T l 24 0 [0]).length by unfold gp_cut at hk; omega) hk hik
  unfold gp_cut at hk ⊢
  rw [List.getD_eq_getElem?_getD, List.getD_eq_getElem?_getD, List.getElem?_eq_getElem (by omega), List.getElem?_eq_getElem hk]
  exact this
/-- an old token that ends at a place, with modes -/
def gq_oC (ts : List gp_K) (w : Nat) (stk : List Nat) : Option Nat := match gp_fst (fun j => decide ((ts.getD j gp_k0).2.2.1 = w)) ts.length 0 with
  | some j => if (ts.getD j gp_k0).2.2.2.2.2.2 = stk then some j else none
  | none => none
def gq_oR (ts : List gp_K) (w : Nat) (stk : List Nat) : Nat → Nat → Option Nat
  | 0, _ => none
  | n + 1, k => if (ts.getD k gp_k0).2.2.1 = w ∧ (ts.getD k gp_k0).2.2.2.2.2.2.length = stk.length then (if (ts.getD k gp_k0).2.2.2.2.2.2 = stk then some k else none) else gq_oR ts w stk n (k + 1)
theorem gq_oR_no {ts : List gp_K} {w : Nat} {stk : List Nat} : ∀ n k, (∀ j, k ≤ j → j < k + n → (ts.getD j gp_k0).2.2.1 ≠ w) → gq_oR ts w stk n k = none
  | 0, k, _ => rfl
  | n + 1, k, h => by
    rw [gq_oR, if_neg (fun g => h k (Nat.le_refl _) (by omega) g.1)]
    exact gq_oR_no n (k + 1) (fun j h1 h2 => h j (by omega) (by omega))
theorem gq_oE (hw : gp_wT T) (w : Nat) (stk : List Nat) : gq_oR (gp_cut T l) w stk (gp_cut T l).length 0 = gq_oC (gp_cut T l) w stk := by
  have hs : ∀ i k, i < k → k < (gp_cut T l).length → ((gp_cut T l).getD i gp_k0).2.2.1 < ((gp_cut T l).getD k gp_k0).2.2.1 := fun i k h1 h2 => gq_sort hw h1 h2
  generalize gp_cut T l = ts at hs
  unfold gq_oC
  have main : ∀ n k, k + n = ts.length → gq_oR ts w stk n k = match gp_fst (fun j => decide ((ts.getD j gp_k0).2.2.1 = w)) n k with
      | some j => if (ts.getD j gp_k0).2.2.2.2.2.2 = stk then some j else none
      | none => none := by
    intro n
    induction n with
    | zero => intro k _; rfl
    | succ n ih =>
      intro k hk
      rw [gq_oR, gp_fst]
      by_cases h1 : (ts.getD k gp_k0).2.2.1 = w
      · rw [if_pos (show decide ((ts.getD k gp_k0).2.2.1 = w) = true from decide_eq_true h1)]
        dsimp only
        by_cases h2 : (ts.getD k gp_k0).2.2.2.2.2.2.length = stk.length
        · rw [if_pos ⟨h1, h2⟩]
        · rw [if_neg (fun g => h2 g.2), if_neg (fun g => h2 (by rw [g]))]
          refine gq_oR_no n (k + 1) (fun j g1 g2 g => ?_)
          have := hs k j (by omega) (by omega)
          omega
      · rw [if_neg (fun g => h1 g.1), if_neg (show ¬ decide ((ts.getD k gp_k0).2.2.1 = w) = true from fun g => h1 (of_decide_eq_true g)), ih (k + 1) (by omega)]
  exact main ts.length 0 (by omega)
def gq_mv (kd w : Nat) : Nat := if kd = 0 then w else if kd = 1 then w - 1 else w + 1
/-- how many are cut anew, which old one is met -/
def gq_met (kd q : Nat) (ts : List gp_K) : List gp_K → Nat → Nat × Option Nat
  | [], a => (a, none)
  | t :: r, a => if (q < t.2.2.1 ∨ (kd = 2 ∧ q = t.2.2.1)) ∧ (gq_oC ts (gq_mv kd t.2.2.1) t.2.2.2.2.2.2).isSome = true then (a + 1, gq_oC ts (gq_mv kd t.2.2.1) t.2.2.2.2.2.2) else gq_met kd q ts r (a + 1)
theorem gq_oC_lt {ts : List gp_K} {w j : Nat} {stk : List Nat} (h : gq_oC ts w stk = some j) : j < ts.length := by
  unfold gq_oC at h
  split at h
  · rename_i k hk
    split at h
    · cases h
      have g : ∀ (p : Nat → Bool) (n i : Nat), gp_fst p n i = some j → j < i + n := by
        intro p n
        induction n with
        | zero => intro i h; cases h
        | succ n ih =>
          intro i h
          rw [gp_fst] at h
          split at h
          · cases h; omega
          · have := ih (i + 1) h; omega
      have := g _ _ _ hk
      omega
    · cases h
  · cases h
theorem gq_met_b (kd q : Nat) (ts : List gp_K) : ∀ (r : List gp_K) (a : Nat), (gq_met kd q ts r a).1 ≤ a + r.length ∧ ∀ j, (gq_met kd q ts r a).2 = some j → j < ts.length
  | [], a => ⟨Nat.le_refl _, fun j h => by cases h⟩
  | t :: r, a => by
    rw [gq_met]
    split
    · exact ⟨by simp, fun j h => gq_oC_lt h⟩
    · obtain ⟨b1, b2⟩ := gq_met_b kd q ts r (a + 1)
      exact ⟨by rw [List.length_cons]; omega, b2⟩
theorem gq_enc_inj : ∀ {a b : List Nat}, (∀ d, d ∈ a → d < 4) → (∀ d, d ∈ b → d < 4) → a.length = b.length → gp_enc a = gp_enc b → a = b
  | [], [], _, _, _, _ => rfl
  | [], y :: b, _, _, h, _ => by simp at h
  | x :: a, [], _, _, h, _ => by simp at h
  | x :: a, y :: b, ha, hb, h, e => by
    rw [gp_enc, gp_enc] at e
    have h1 := ha x List.mem_cons_self
    have h2 := hb y List.mem_cons_self
    have h3 : x = y := by omega
    have h4 : gp_enc a = gp_enc b := by omega
    rw [h3, gq_enc_inj (fun d hd => ha d (List.mem_cons_of_mem _ hd)) (fun d hd => hb d (List.mem_cons_of_mem _ hd)) (by simpa using h) h4]
theorem gq_chg_pre {kd j z : Nat} (hk : kd < 3) (h : gq_can kd l j z) : ∀ i, i < j → (gq_chg kd l j z)[i]? = l[i]? := by
  intro i hi
  obtain ⟨h1, h2, h3, h4⟩ := h
  unfold gq_chg
  obtain h | h | h : kd = 0 ∨ kd = 1 ∨ kd = 2 := by omega
  · subst h
    rw [if_pos rfl, List.getElem?_set_ne (by omega)]
  · subst h
    have := (h3 rfl).1
    rw [if_neg (by omega), if_pos rfl]
    unfold gp_ins
    rw [List.getElem?_append_left (by simp; omega), List.getElem?_take, if_pos hi]
  · subst h
    have := h4 rfl
    rw [if_neg (by omega), if_neg (by omega)]
    unfold gp_del
    rw [List.getElem?_append_left (by simp; omega), List.getElem?_take, if_pos hi]
end
end
