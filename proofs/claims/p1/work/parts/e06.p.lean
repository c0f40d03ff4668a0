/-! the law's loop -/
def gq_E (x : gz_X) (l : Launch) : Prop := ∀ x' pf' M' lv, gz_StL x x' → gz_Ok x' cL_law RL 8 60 gz_cfL pf' l → gz_UL x' 0 → gz_At x' 1466 lv [.int 1] M'
section
variable {B : Prop} {x : gz_X} {pf : Nat → Bool} {l : Launch} {b L i k : Nat} {xs : Nat → Int32} {M : gz_M}
theorem gq_m6 (hL : L ≤ 3072) : (nI L - 6).toInt = (L : Int) - 6 := by
  by_cases h : 6 ≤ L
  · rw [show (6 : Int32) = nI 6 from rfl, gp_subI h, nI_toInt (by omega)]
    omega
  · have : L = 0 ∨ L = 1 ∨ L = 2 ∨ L = 3 ∨ L = 4 ∨ L = 5 := by omega
    rcases this with rfl | rfl | rfl | rfl | rfl | rfl <;> decide
theorem gq_weak {Mc Mr : gz_M} (h : gp_R True pf Mc Mr) : gp_R False pf Mc Mr := by
  obtain ⟨cu, x, b, us, ks, o, ⟨a1, a2, a3, a4, a5, a6, a7, r, r', b1, b2, b3, b4, b5⟩, hr⟩ := h
  exact ⟨cu, x, b, us, ks, o, ⟨a1, a2, a3, a4, a5, a6, a7, r, r', b1, b2, b3, b4, fun h => h.elim⟩, hr⟩
/-- behind the one call the law ends -/
theorem gq_fin (hL : L ≤ 6) (hE : gq_E x l) : gq_K B x l b L xs 0 k := by
  intro x1 pf1 M1 hS F1 hu1 _
  refine gr_iinc 6 ((4, .int (nI (0 + 6))) :: [(0, .ref b), (1, .ref (gx_ad x1 0)), (2, .ref (gx_ad x1 1)), (3, .ref (gx_ad x1 2))]) F1.1 dL_law_1459 4 rfl rfl (by rw [show (6 : Int32) = nI 6 from rfl, nI_add]) (by decide) rfl ?_
  refine gr_goto 23 F1.1 dL_law_1462 (by decide) ?_
  refine gr_sub (lv' := gq_lv x1 b (0 + 6)) [1, 2, 3, 4, 0] rfl ?_
  refine gr_iload F1.1 dL_law_23 4 rfl ?_
  refine gr_aload_n F1.1 dL_law_25 0 rfl rfl ?_
  refine gr_slen F1 dL_law_26 ?_
  refine gr_bipush 6 F1.1 dL_law_27 (by decide) ?_
  refine gr_isub F1.1 dL_law_29 ?_
  refine gr_icmp_gt 1465 F1.1 dL_law_30 (by decide) (fun _ => ?_) (fun h => ?_)
  · refine gr_iconst 1 F1.1 dL_law_1465 rfl ?_
    exact hE x1 pf1 M1 _ hS F1.1 (hu1.le (by omega))
  · refine absurd ?_ h
    rw [Int32.lt_iff_toInt_lt, gq_m6 (by omega), nI_toInt (by omega)]
    omega
theorem gq_cases (hl9 : l.stackTraces = false) (F : gq_LF x pf l b L xs) (hL : L ≤ 6) (hi : 0 + 6 ≤ L) (hu : gz_UL x (k + 1)) (hR : gp_R True pf (gz_sC M) (gz_sR M)) (hE : gq_E x l) {a : Int32} : gz_At x 40 (gq_lv x b 0) [.int a] M := by
  have out : a.toInt < 0 ∨ 39 < a.toInt → gz_At x 40 (gq_lv x b 0) [.int a] M := fun h => gr_tsOut 1459 F.1 dL_law_40 h (by decide) (gq_fin (B := True) (k := k) hL hE x pf M gz_StL.rf F (hu.le (by omega)) hR)
  rcases pk_ix a (n := 40) (by omega) with ha | ha | ⟨j, hj, rfl⟩
  · exact out (Or.inl (gp_tneg ha))
  · have g := gp_tge (by omega) ha
    exact out (Or.inr (by omega))
  · clear out
    match j, hj with
    | 0, _ => exact gr_tsIn (nI 0) 176 216 F.1 dL_law_40 rfl (by decide) (by decide) (by decide) (by decide) (gq_case_0 (B := True) hl9 F (by omega) hi hu hR (gq_fin hL hE))
    | 1, _ => exact gr_tsIn (nI 1) 201 241 F.1 dL_law_40 rfl (by decide) (by decide) (by decide) (by decide) (gq_case_1 (B := True) hl9 F (by omega) hi hu hR (gq_fin hL hE))
    | 2, _ => exact gr_tsIn (nI 2) 226 266 F.1 dL_law_40 rfl (by decide) (by decide) (by decide) (by decide) (gq_case_2 (B := True) hl9 F (by omega) hi hu hR (gq_fin hL hE))
    | 3, _ => exact gr_tsIn (nI 3) 239 279 F.1 dL_law_40 rfl (by decide) (by decide) (by decide) (by decide) (gq_case_3 (B := True) hl9 F (by omega) hi hu hR (gq_fin hL hE))
    | 4, _ => exact gr_tsIn (nI 4) 252 292 F.1 dL_law_40 rfl (by decide) (by decide) (by decide) (by decide) (gq_case_4 (B := True) hl9 F (by omega) hi hu hR (gq_fin hL hE))
    | 5, _ => exact gr_tsIn (nI 5) 320 360 F.1 dL_law_40 rfl (by decide) (by decide) (by decide) (by decide) (gq_case_5 (B := True) hl9 F (by omega) hi hu hR (gq_fin hL hE))
    | 6, _ => exact gr_tsIn (nI 6) 376 416 F.1 dL_law_40 rfl (by decide) (by decide) (by decide) (by decide) (gq_case_6 (B := True) hl9 F (by omega) hi hu hR (gq_fin hL hE))
    | 7, _ => exact gr_tsIn (nI 7) 437 477 F.1 dL_law_40 rfl (by decide) (by decide) (by decide) (by decide) (gq_case_7 (B := True) hl9 F (by omega) hi hu hR (gq_fin hL hE))
    | 8, _ => exact gr_tsIn (nI 8) 450 490 F.1 dL_law_40 rfl (by decide) (by decide) (by decide) (by decide) (gq_case_8 (B := True) hl9 F (by omega) hi hu hR (gq_fin hL hE))
    | 9, _ => exact gr_tsIn (nI 9) 518 558 F.1 dL_law_40 rfl (by decide) (by decide) (by decide) (by decide) (gq_case_9 (B := True) hl9 F (by omega) hi hu hR (gq_fin hL hE))
    | 10, _ => exact gr_tsIn (nI 10) 543 583 F.1 dL_law_40 rfl (by decide) (by decide) (by decide) (by decide) (gq_case_10 (B := True) hl9 F (by omega) hi hu hR (gq_fin hL hE))
    | 11, _ => exact gr_tsIn (nI 11) 568 608 F.1 dL_law_40 rfl (by decide) (by decide) (by decide) (by decide) (gq_case_11 (B := True) hl9 F (by omega) hi hu hR (gq_fin hL hE))
    | 12, _ => exact gr_tsIn (nI 12) 581 621 F.1 dL_law_40 rfl (by decide) (by decide) (by decide) (by decide) (gq_case_12 (B := True) hl9 F (by omega) hi hu hR (gq_fin hL hE))
    | 13, _ => exact gr_tsIn (nI 13) 606 646 F.1 dL_law_40 rfl (by decide) (by decide) (by decide) (by decide) (gq_case_13 (B := True) hl9 F (by omega) hi hu hR (gq_fin hL hE))
    | 14, _ => exact gr_tsIn (nI 14) 631 671 F.1 dL_law_40 rfl (by decide) (by decide) (by decide) (by decide) (gq_case_14 (B := True) hl9 F (by omega) hi hu hR (gq_fin hL hE))
    | 15, _ => exact gr_tsIn (nI 15) 656 696 F.1 dL_law_40 rfl (by decide) (by decide) (by decide) (by decide) (gq_case_15 (B := True) hl9 F (by omega) hi hu hR (gq_fin hL hE))
    | 16, _ => exact gr_tsIn (nI 16) 681 721 F.1 dL_law_40 rfl (by decide) (by decide) (by decide) (by decide) (gq_case_16 (B := True) hl9 F (by omega) hi hu hR (gq_fin hL hE))
    | 17, _ => exact gr_tsIn (nI 17) 694 734 F.1 dL_law_40 rfl (by decide) (by decide) (by decide) (by decide) (gq_case_17 (B := True) hl9 F (by omega) hi hu hR (gq_fin hL hE))
    | 18, _ => exact gr_tsIn (nI 18) 707 747 F.1 dL_law_40 rfl (by decide) (by decide) (by decide) (by decide) (gq_case_18 (B := True) hl9 F (by omega) hi hu hR (gq_fin hL hE))
    | 19, _ => exact gr_tsIn (nI 19) 744 784 F.1 dL_law_40 rfl (by decide) (by decide) (by decide) (by decide) (gq_case_19 (B := True) hl9 F (by omega) hi hu hR (gq_fin hL hE))
    | 20, _ => exact gr_tsIn (nI 20) 781 821 F.1 dL_law_40 rfl (by decide) (by decide) (by decide) (by decide) (gq_case_20 (B := True) hl9 F (by omega) hi hu hR (gq_fin hL hE))
    | 21, _ => exact gr_tsIn (nI 21) 830 870 F.1 dL_law_40 rfl (by decide) (by decide) (by decide) (by decide) (gq_case_21 (B := True) hl9 F (by omega) hi hu hR (gq_fin hL hE))
    | 22, _ => exact gr_tsIn (nI 22) 855 895 F.1 dL_law_40 rfl (by decide) (by decide) (by decide) (by decide) (gq_case_22 (B := False) hl9 (fun h => h.elim) F (by omega) hi hu (gq_weak hR) (gq_fin hL hE))
    | 23, _ => exact gr_tsIn (nI 23) 880 920 F.1 dL_law_40 rfl (by decide) (by decide) (by decide) (by decide) (gq_case_23 (B := True) hl9 F (by omega) hi hu hR (gq_fin hL hE))
    | 24, _ => exact gr_tsIn (nI 24) 893 933 F.1 dL_law_40 rfl (by decide) (by decide) (by decide) (by decide) (gq_case_24 (B := False) hl9 (fun h => h.elim) F (by omega) hi hu (gq_weak hR) (gq_fin hL hE))
    | 25, _ => exact gr_tsIn (nI 25) 930 970 F.1 dL_law_40 rfl (by decide) (by decide) (by decide) (by decide) (gq_case_25 (B := True) hl9 F (by omega) hi hu hR (gq_fin hL hE))
    | 26, _ => exact gr_tsIn (nI 26) 967 1007 F.1 dL_law_40 rfl (by decide) (by decide) (by decide) (by decide) (gq_case_26 (B := True) hl9 F (by omega) hi hu hR (gq_fin hL hE))
    | 27, _ => exact gr_tsIn (nI 27) 1004 1044 F.1 dL_law_40 rfl (by decide) (by decide) (by decide) (by decide) (gq_case_27 (B := True) hl9 F (by omega) hi hu hR (gq_fin hL hE))
    | 28, _ => exact gr_tsIn (nI 28) 1029 1069 F.1 dL_law_40 rfl (by decide) (by decide) (by decide) (by decide) (gq_case_28 (B := True) hl9 F (by omega) hi hu hR (gq_fin hL hE))
    | 29, _ => exact gr_tsIn (nI 29) 1102 1142 F.1 dL_law_40 rfl (by decide) (by decide) (by decide) (by decide) (gq_case_29 (B := True) hl9 F (by omega) hi hu hR (gq_fin hL hE))
    | 30, _ => exact gr_tsIn (nI 30) 1139 1179 F.1 dL_law_40 rfl (by decide) (by decide) (by decide) (by decide) (gq_case_30 (B := True) hl9 F (by omega) hi hu hR (gq_fin hL hE))
    | 31, _ => exact gr_tsIn (nI 31) 1176 1216 F.1 dL_law_40 rfl (by decide) (by decide) (by decide) (by decide) (gq_case_31 (B := True) hl9 F (by omega) hi hu hR (gq_fin hL hE))
    | 32, _ => exact gr_tsIn (nI 32) 1201 1241 F.1 dL_law_40 rfl (by decide) (by decide) (by decide) (by decide) (gq_case_32 (B := True) hl9 F (by omega) hi hu hR (gq_fin hL hE))
    | 33, _ => exact gr_tsIn (nI 33) 1226 1266 F.1 dL_law_40 rfl (by decide) (by decide) (by decide) (by decide) (gq_case_33 (B := True) hl9 F (by omega) hi hu hR (gq_fin hL hE))
    | 34, _ => exact gr_tsIn (nI 34) 1239 1279 F.1 dL_law_40 rfl (by decide) (by decide) (by decide) (by decide) (gq_case_34 (B := True) hl9 F (by omega) hi hu hR (gq_fin hL hE))
    | 35, _ => exact gr_tsIn (nI 35) 1252 1292 F.1 dL_law_40 rfl (by decide) (by decide) (by decide) (by decide) (gq_case_35 (B := True) hl9 F (by omega) hi hu hR (gq_fin hL hE))
    | 36, _ => exact gr_tsIn (nI 36) 1289 1329 F.1 dL_law_40 rfl (by decide) (by decide) (by decide) (by decide) (gq_case_36 (B := True) hl9 F (by omega) hi hu hR (gq_fin hL hE))
    | 37, _ => exact gr_tsIn (nI 37) 1314 1354 F.1 dL_law_40 rfl (by decide) (by decide) (by decide) (by decide) (gq_case_37 (B := True) hl9 F (by omega) hi hu hR (gq_fin hL hE))
    | 38, _ => exact gr_tsIn (nI 38) 1339 1379 F.1 dL_law_40 rfl (by decide) (by decide) (by decide) (by decide) (gq_case_38 (B := True) hl9 trivial F (by omega) hi hu hR (gq_fin hL hE))
    | 39, _ => exact gr_tsIn (nI 39) 1364 1404 F.1 dL_law_40 rfl (by decide) (by decide) (by decide) (by decide) (gq_case_39 (B := True) hl9 trivial F (by omega) hi hu hR (gq_fin hL hE))
    | j + 40, hj => exact absurd hj (by omega)
theorem gq_once (hl9 : l.stackTraces = false) (hL : L ≤ 6) (F : gq_LF x pf l b L xs) (hu : gz_UL x (k + 1)) (hR : gp_R True pf (gz_sC M) (gz_sR M)) (hE : gq_E x l) : gz_At x 23 (gq_lv x b 0) [] M := by
  refine gr_iload F.1 dL_law_23 4 rfl ?_
  refine gr_aload_n F.1 dL_law_25 0 rfl rfl ?_
  refine gr_slen F dL_law_26 ?_
  refine gr_bipush 6 F.1 dL_law_27 (by decide) ?_
  refine gr_isub F.1 dL_law_29 ?_
  refine gr_icmp_gt 1465 F.1 dL_law_30 (by decide) (fun _ => ?_) (fun h => ?_)
  · refine gr_iconst 1 F.1 dL_law_1465 rfl ?_
    exact hE x pf M _ gz_StL.rf F.1 (hu.le (by omega))
  · have hi6 : 0 + 6 ≤ L := by
      rw [Int32.lt_iff_toInt_lt, gq_m6 (by omega), nI_toInt (by omega)] at h
      omega
    refine gr_aload_n F.1 dL_law_33 0 rfl rfl ?_
    refine gr_iload F.1 dL_law_34 4 rfl ?_
    refine gr_sld F (by omega) (by omega) dL_law_36 ?_
    refine gr_bipush 63 F.1 dL_law_37 (by decide) ?_
    refine gr_iand F.1 dL_law_39 ?_
    exact gq_cases hl9 F hL hi6 hu hR hE
end
