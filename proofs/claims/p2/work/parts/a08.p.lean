/-! promises 2, 3: sign, end -/
section
variable {B : Prop} {pf pf' : Nat → Bool} {M M' Mc Mr Mc' Mr' : gz_M} {cu o : Nat} {x x' t l : List Nat} {b : gp_Bk} {us : List gp_Bk} {ks : Nat → Option gp_Bk}
/-- the text alone is another -/
theorem gp_RI.tx (h : gp_RI B pf cu Mc Mr x b us ks o) (ec2 : Mc'.2 = Mc.2) (ec : ∀ c, c ≠ 1 → c ≠ 2 → Mc'.1 c = Mc.1 c) (er2 : Mr'.2 = Mr.2) (er : ∀ c, c ≠ 0 → c ≠ 2 → Mr'.1 c = Mr.1 c) (er0 : ∀ i, i ≠ 2 → i ≠ 5 → Mr'.1 0 i = Mr.1 0 i) (hx : gp_xC Mc' x') (hr : gp_txR Mr' x') : gp_RI B pf cu Mc' Mr' x' b us ks o := by
  obtain ⟨⟨q1, q2, q3, q4, q5, q6, q7, q8⟩, h2, h3, h4, h5, h6, h7, h8, h9, h10, h11⟩ := h
  have hcu := q6.1
  refine ⟨⟨q1, q2.fr (fun c c1 c2 => ec c (by omega) (by omega)), q3.fr (fun c c1 c2 => er c (by omega) (by omega)) (er0 10 (by omega) (by omega)), q4.fr (fun c c1 c2 => ec c (by omega) (by omega)), q5.fr (er 1 (by omega) (by omega)), ⟨q6.1, by rw [ec 0 (by omega) (by omega)]; exact q6.2.1, q6.2.2.1.fr (fun c c1 c2 => ec c (by omega) (by omega)), q6.2.2.2⟩, by rw [ec 0 (by omega) (by omega)]; exact q7, q8.fr ec2 (by rw [ec 0 (by omega) (by omega)]) er2 (er0 4 (by omega) (by omega))⟩, h2, hx, hr, ?_, h6.fr (er 1 (by omega) (by omega)), h7, h8.fr (fun c hc => ec c (by omega) (by omega)), h9, h10.fr (er 33 (by omega) (by omega)) (er0 51 (by omega) (by omega)), h11.fr (fun _ _ _ => rfl) (fun c hc => ec c (by omega) (by omega)) (fun c hc => er c (by omega) (by omega))⟩
  obtain ⟨a1, a2, a3⟩ := h5
  exact ⟨a1, by rw [ec 7 (by omega) (by omega)]; exact a2, fun i hi => by rw [ec 8 (by omega) (by omega)]; exact a3 i hi⟩
theorem gp_and255 (z : Int32) : z &&& 255 = nI (z.toBitVec.toNat % 256) := by
  apply Int32.toBitVec_inj.mp
  apply BitVec.eq_of_toNat_eq
  have h1 : (z &&& 255).toBitVec.toNat = z.toBitVec.toNat &&& 255 := by
    rw [Int32.toBitVec_and, BitVec.toNat_and]
    rfl
  have h2 : (nI (z.toBitVec.toNat % 256)).toBitVec.toNat = z.toBitVec.toNat % 256 := by
    have := Nat.mod_lt z.toBitVec.toNat (show 256 > 0 by omega)
    show (BitVec.ofNat 32 _).toNat = _
    rw [BitVec.toNat_ofNat]
    omega
  rw [h1, h2]
  exact Nat.and_two_pow_sub_one_eq_mod _ 8
theorem gp_shB (a s : Int32) {k : Nat} (hk : k = 0 ∨ k = 8 ∨ k = 16 ∨ k = 24) (hs : (s.toBitVec.smod 32).toNat = k) : (a >>> s).toBitVec.toNat % 256 = a.toBitVec.toNat / 2 ^ k % 256 := by
  have h1 := pk_shr a s k hs
  have h2 : (a >>> s).toBitVec.toInt = a.toBitVec.toInt >>> k := h1
  rw [BitVec.toInt_eq_toNat_cond, BitVec.toInt_eq_toNat_cond, Int.shiftRight_eq_div_pow] at h2
  have b1 := (a >>> s).toBitVec.isLt
  have b2 := a.toBitVec.isLt
  generalize (a >>> s).toBitVec.toNat = u at h2 b1 ⊢
  generalize a.toBitVec.toNat = w at h2 b2 ⊢
  rw [show (2 : Nat) ^ 32 = 4294967296 from rfl] at h2 b1 b2
  rcases hk with rfl | rfl | rfl | rfl
  · rw [show (2 : Nat) ^ 0 = 1 from rfl] at h2 ⊢
    split at h2 <;> split at h2 <;> omega
  · rw [show (2 : Nat) ^ 8 = 256 from rfl] at h2 ⊢
    split at h2 <;> split at h2 <;> omega
  · rw [show (2 : Nat) ^ 16 = 65536 from rfl] at h2 ⊢
    split at h2 <;> split at h2 <;> omega
  · rw [show (2 : Nat) ^ 24 = 16777216 from rfl] at h2 ⊢
    split at h2 <;> split at h2 <;> omega
theorem gp_bpb (x : Int32) : x.toInt8.toInt32 &&& 255 = x &&& 255 := by
  apply Int32.toBitVec_inj.mp
  rw [Int32.toBitVec_and, Int32.toBitVec_and, Int8.toBitVec_toInt32, Int32.toBitVec_toInt8]
  apply BitVec.eq_of_getLsbD_eq
  intro i hi
  rw [BitVec.getLsbD_and, BitVec.getLsbD_and]
  have hm : ∀ i < 32, 8 ≤ i → (255 : Int32).toBitVec.getLsbD i = false := by decide
  rcases Nat.lt_or_ge i 8 with z | z
  · rw [BitVec.getLsbD_signExtend, BitVec.getLsbD_signExtend, if_pos z, if_pos hi]
    simp only [z, hi, decide_true, Bool.true_and]
  · rw [hm i hi z]; simp
theorem gp_snocC {M : gz_M} {y : Nat} (h : gp_xC M x) (hl : x.length < 80) (hy : y < 256) : gp_xC (gz_w (gz_w M 2 x.length (nI y)) 1 1 (nI (x.length + 1))) (x ++ [y]) := by
  obtain ⟨h1, h2, h3⟩ := h
  refine ⟨by simp; omega, by rw [gp_gs]; simp, fun i hi => ?_⟩
  have hi : i < x.length + 1 := by simpa using hi
  rw [gp_gn (by omega)]
  by_cases e : i = x.length
  · rw [e, gp_gs, gp_getD_r]
    exact ⟨rfl, hy⟩
  · rw [gp_gn (by omega), gp_getD_l (by omega)]
    exact h3 i (by omega)
theorem gp_snocR {M : gz_M} {y : Nat} {v : Int32} (h : gp_txR M x) (hl : x.length < 80) (hy : y < 256) (hv : v &&& 255 = nI y) : gp_txR (gz_w (gz_w M 0 2 (nI (x.length + 1))) 2 x.length v) (x ++ [y]) := by
  obtain ⟨h1, h2, h3⟩ := h
  refine ⟨by simp; omega, by rw [gp_gn (by omega), gp_gs]; simp, fun i hi => ?_⟩
  have hi : i < x.length + 1 := by simpa using hi
  by_cases e : i = x.length
  · rw [e, gp_gs, gp_getD_r]
    exact ⟨hv, hy⟩
  · rw [gp_gn (by omega), gp_gn (by omega), gp_getD_l (by omega)]
    exact h3 i (by omega)
def gp_by (a : Int32) (k : Nat) : Nat := a.toBitVec.toNat / 2 ^ k % 256
theorem gp_by_lt (a : Int32) (k : Nat) : gp_by a k < 256 := Nat.mod_lt _ (by omega)
theorem gp_byC (a s : Int32) {k : Nat} (hs : ((s.toUInt32 &&& Int32.toUInt32 31).toBitVec % 32).toNat = k) : gz_ushr a s &&& 255 = nI (gp_by a k) := by
  rw [gp_and255]
  unfold gz_ushr gp_by
  rw [pk_ushr a s k hs]
theorem gp_byR (a s : Int32) {k : Nat} (hk : k = 0 ∨ k = 8 ∨ k = 16 ∨ k = 24) (hs : ((s &&& 31).toBitVec.smod 32).toNat = k) : vp_nar .byte ((gz_shr a s).toInt8.toInt32) &&& 255 = nI (gp_by a k) := by
  rw [pk_vb, gp_bpb, gp_and255]
  unfold gz_shr gp_by
  rw [gp_shB a _ hk hs]
theorem gp_sgC (a : Int32) {n : Nat} {sh : Int32} {k : Nat} (h0 : ¬ sh < 0) (hs : ((sh.toUInt32 &&& Int32.toUInt32 31).toBitVec % 32).toNat = k) (h : gp_xC M x) (hl : x.length < 80) : f10_addFour_21 (n + 1) a sh M = f10_addFour_21 n a (sh + (-8)) (gz_w (gz_w M 2 x.length (nI (gp_by a k))) 1 1 (nI (x.length + 1))) := by
  rw [f10_addFour_21, if_neg h0, h.2.1, gp_ckb hl (by omega), nI_clamp (by omega), gp_byC a sh hs, gp_eL, gp_gn (by omega), h.2.1, nI_1, gp_eL, gp_eL]
theorem gp_sgR (a : Int32) {n : Nat} {sh : Int32} (h0 : ¬ sh < 0) (h : gp_txR M x) (hl : x.length < 80) : f12_sign_20 (n + 1) a sh M = f12_sign_20 n a (sh + (-1)) (gz_w (gz_w M 0 2 (nI (x.length + 1))) 2 x.length (vp_nar .byte ((gz_shr a (8 * sh)).toInt8.toInt32))) := by
  rw [f12_sign_20, if_neg h0, gp_eL, h.2.1, nI_1, gp_eL, gp_ckb hl (by omega), nI_clamp (by omega), gp_eL, gp_eL]
theorem gp_a2 (h : gp_RI B pf cu Mc Mr x b us ks o) (a : Int32) : ∃ v Mc' Mr', f11_sign a Mc = some (v, Mc') ∧ f12_sign a Mr = some (v, Mr') ∧ gp_R B pf Mc' Mr' := by
  have hR := h
  obtain ⟨_, _, h3, h4, _⟩ := h
  have h80 := h3.1
  have h4' : gp_txR (gz_w Mr 0 5 0) x := h4.fr (gp_wc _ (by omega)) (gp_gn (by omega))
  by_cases hl : x.length ≤ 76
  · have l1 : (x ++ [gp_by a 24]).length = x.length + 1 := by simp
    have l2 : (x ++ [gp_by a 24] ++ [gp_by a 16]).length = x.length + 2 := by simp
    have l3 : (x ++ [gp_by a 24] ++ [gp_by a 16] ++ [gp_by a 8]).length = x.length + 3 := by simp
    have l4 : (x ++ [gp_by a 24] ++ [gp_by a 16] ++ [gp_by a 8] ++ [gp_by a 0]).length = x.length + 4 := by simp
    have c1 := gp_snocC h3 (by omega) (gp_by_lt a 24)
    have c2 := gp_snocC c1 (by omega) (gp_by_lt a 16)
    have c3 := gp_snocC c2 (by omega) (gp_by_lt a 8)
    have c4 := gp_snocC c3 (by omega) (gp_by_lt a 0)
    have r1 := gp_snocR h4' (by omega) (gp_by_lt a 24) (gp_byR a (8 * 3) (k := 24) (by omega) (by decide))
    have r2 := gp_snocR r1 (by omega) (gp_by_lt a 16) (gp_byR a (8 * 2) (k := 16) (by omega) (by decide))
    have r3 := gp_snocR r2 (by omega) (gp_by_lt a 8) (gp_byR a (8 * 1) (k := 8) (by omega) (by decide))
    have r4 := gp_snocR r3 (by omega) (gp_by_lt a 0) (gp_byR a (8 * 0) (k := 0) (by omega) (by decide))
    have eC : ∃ N, f10_addFour a Mc = some (1, N) ∧ gp_xC N (x ++ [gp_by a 24] ++ [gp_by a 16] ++ [gp_by a 8] ++ [gp_by a 0]) ∧ N.2 = Mc.2 ∧ ∀ c, c ≠ 1 → c ≠ 2 → N.1 c = Mc.1 c := by
      refine ⟨_, ?_, c4, rfl, fun c e1 e2 => ?_⟩
      · unfold f10_addFour
        rw [h3.2.1, if_neg (nI_pos (by omega)), if_pos (show nI x.length ≤ (76 : Int32) from nI_le (b := 76) hl (by omega)), show gz_FU = 999995 + 1 + 1 + 1 + 1 + 1 from rfl, gp_sgC a (k := 24) (by decide) (by decide) h3 (by omega), show (24 : Int32) + (-8) = 16 by decide, gp_sgC a (k := 16) (by decide) (by decide) c1 (by omega), show (16 : Int32) + (-8) = 8 by decide, gp_sgC a (k := 8) (by decide) (by decide) c2 (by omega), show (8 : Int32) + (-8) = 0 by decide, gp_sgC a (k := 0) (by decide) (by decide) c3 (by omega), f10_addFour_21, if_pos (by decide)]
      · rw [gp_wc _ e1, gp_wc _ e2, gp_wc _ e1, gp_wc _ e2, gp_wc _ e1, gp_wc _ e2, gp_wc _ e1, gp_wc _ e2]
    have eR : ∃ N, f12_sign a Mr = some (nI (x.length + 4), N) ∧ gp_txR N (x ++ [gp_by a 24] ++ [gp_by a 16] ++ [gp_by a 8] ++ [gp_by a 0]) ∧ N.2 = Mr.2 ∧ (∀ c, c ≠ 0 → c ≠ 2 → N.1 c = Mr.1 c) ∧ ∀ i, i ≠ 2 → i ≠ 5 → N.1 0 i = Mr.1 0 i := by
      refine ⟨_, ?_, r4, rfl, fun c e1 e2 => ?_, fun i e1 e2 => ?_⟩
      · unfold f12_sign
        rw [gp_eL, h4'.2.1, show (4 : Int32) = nI 4 from rfl, nI_add, if_pos (show nI (x.length + 4) ≤ (80 : Int32) from nI_le (b := 80) (by omega) (by omega)), show gz_FU = 999995 + 1 + 1 + 1 + 1 + 1 from rfl, gp_sgR a (by decide) h4' (by omega), show (3 : Int32) + (-1) = 2 by decide, gp_sgR a (by decide) r1 (by omega), show (2 : Int32) + (-1) = 1 by decide, gp_sgR a (by decide) r2 (by omega), show (1 : Int32) + (-1) = 0 by decide, gp_sgR a (by decide) r3 (by omega), f12_sign_20, if_pos (by decide), r4.2.1, l4]
      · rw [gp_wc _ e2, gp_wc _ e1, gp_wc _ e2, gp_wc _ e1, gp_wc _ e2, gp_wc _ e1, gp_wc _ e2, gp_wc _ e1, gp_wc _ e1]
      · rw [gp_gn (by omega), gp_gn (by omega), gp_gn (by omega), gp_gn (by omega), gp_gn (by omega), gp_gn (by omega), gp_gn (by omega), gp_gn (by omega), gp_gn (by omega)]
    obtain ⟨NC, eC1, eC2, eC3, eC4⟩ := eC
    obtain ⟨NR, eR1, eR2, eR3, eR4, eR5⟩ := eR
    refine ⟨nI (x.length + 4), NC, NR, ?_, eR1, cu, _, b, us, ks, o, hR.tx eC3 eC4 eR3 eR4 eR5 eC2 eR2⟩
    unfold f11_sign
    rw [eC1, gp_eB2, if_neg (by decide), eC2.2.1, l4]
  · refine ⟨-1, Mc, gz_w Mr 0 5 0, ?_, ?_, cu, x, b, us, ks, o, hR.tx rfl (fun _ _ _ => rfl) rfl (fun c e1 e2 => gp_wc _ e1) (fun i e1 e2 => gp_gn (by omega)) h3 h4'⟩
    · have e : f10_addFour a Mc = some (0, Mc) := by
        unfold f10_addFour
        rw [h3.2.1, if_neg (nI_pos (by omega)), if_neg (show ¬ nI x.length ≤ (76 : Int32) from nI_ge (a := 76) (by omega) (by omega))]
      unfold f11_sign
      rw [e, gp_eB2, if_pos rfl]
    · unfold f12_sign
      rw [gp_eL, h4'.2.1, show (4 : Int32) = nI 4 from rfl, nI_add, if_neg (show ¬ nI (x.length + 4) ≤ (80 : Int32) from nI_ge (a := 80) (by omega) (by omega))]
theorem gp_takeD {n i : Nat} (h : i < n) (x : List Nat) : (x.take n).getD i 0 = x.getD i 0 := by
  simp [List.getD, List.getElem?_take, h]
theorem gp_a3 (h : gp_RI B pf cu Mc Mr x b us ks o) (a : Int32) : ∃ v Mc' Mr', f11_end a Mc = some (v, Mc') ∧ f12_end a Mr = some (v, Mr') ∧ gp_R B pf Mc' Mr' := by
  have hR := h
  obtain ⟨_, _, h3, h4, _⟩ := h
  have h80 := h3.1
  have h4' : gp_txR (gz_w Mr 0 5 0) x := h4.fr (gp_wc _ (by omega)) (gp_gn (by omega))
  have no : f10_shorten a Mc = some (0, Mc) → f12_in a 0 (nI x.length) (gz_w Mr 0 5 0) = some (0, gz_w Mr 0 5 0) → ∃ v Mc' Mr', f11_end a Mc = some (v, Mc') ∧ f12_end a Mr = some (v, Mr') ∧ gp_R B pf Mc' Mr' := fun e1 e2 => by
    refine ⟨0, Mc, gz_w Mr 0 5 0, ?_, ?_, cu, x, b, us, ks, o, hR.tx rfl (fun _ _ _ => rfl) rfl (fun c e1 e2 => gp_wc _ e1) (fun i e1 e2 => gp_gn (by omega)) h3 h4'⟩
    · unfold f11_end
      rw [e1, gp_eB2, gp_b0, gp_eC]
    · unfold f12_end
      rw [gp_eL, h4'.2.1, e2, gp_eB2, if_pos rfl]
  rcases pk_ix a (n := x.length + 1) (by omega) with h | h | ⟨j, h1, rfl⟩
  · refine no ?_ ?_
    · unfold f10_shorten
      rw [if_pos h]
    · unfold f12_in
      rw [if_pos h]
  · have g : ¬ a ≤ nI x.length := fun g => by
      have g1 := Int32.le_iff_toInt_le.mp g
      have g2 := Int32.le_iff_toInt_le.mp h
      rw [nI_toInt (by omega)] at g1 g2
      omega
    have g0 : ¬ a < 0 := fun g => by
      have g1 := Int32.lt_iff_toInt_lt.mp g
      have g2 := Int32.le_iff_toInt_le.mp h
      rw [nI_toInt (by omega)] at g2
      rw [show ((0 : Int32)).toInt = 0 by decide] at g1
      omega
    have gl : nI x.length < a := by
      apply Int32.lt_iff_toInt_lt.mpr
      have g2 := Int32.le_iff_toInt_le.mp h
      rw [nI_toInt (by omega)] at g2 ⊢
      omega
    refine no ?_ ?_
    · unfold f10_shorten
      rw [if_neg g0, h3.2.1, if_neg g]
    · unfold f12_in
      rw [if_neg g0, if_pos gl]
  · refine ⟨1, gz_w Mc 1 1 (nI j), gz_w (gz_w Mr 0 5 0) 0 2 (nI j), ?_, ?_, cu, x.take j, b, us, ks, o, hR.tx rfl (fun c e1 e2 => gp_wc _ e1) rfl (fun c e1 e2 => by rw [gp_wc _ e1, gp_wc _ e1]) (fun i e1 e2 => by rw [gp_gn (by omega), gp_gn (by omega)]) ?_ ?_⟩
    · have e : f10_shorten (nI j) Mc = some (1, gz_w Mc 1 1 (nI j)) := by
        unfold f10_shorten
        rw [if_neg (nI_pos (by omega)), h3.2.1, if_pos (nI_le (by omega) (by omega)), gp_eL]
      unfold f11_end
      rw [e, gp_eB2, gp_b1, gp_eC]
    · have e : f12_in (nI j) 0 (nI x.length) (gz_w Mr 0 5 0) = some (1, gz_w Mr 0 5 0) := by
        unfold f12_in
        rw [if_neg (nI_pos (by omega)), if_neg (nI_nlt (by omega) (by omega))]
      unfold f12_end
      rw [gp_eL, h4'.2.1, e, gp_eB2, if_neg (by decide), gp_eL]
    · have hl : (x.take j).length = j := by simp; omega
      refine ⟨by omega, by rw [gp_gs, hl], fun i hi => ?_⟩
      rw [gp_gn (by omega), gp_takeD (by omega)]
      exact h3.2.2 i (by omega)
    · have hl : (x.take j).length = j := by simp; omega
      refine ⟨by omega, by rw [gp_gs, hl], fun i hi => ?_⟩
      rw [gp_gn (by omega), gp_takeD (by omega)]
      exact h4'.2.2 i (by omega)
end
