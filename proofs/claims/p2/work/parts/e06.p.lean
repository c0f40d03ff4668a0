/-! the law's loop -/
def gq_E (x : gz_X) (l : Launch) : Prop := ∀ x' pf' M' lv, gz_StL x x' → gz_Ok x' cL_law RL 8 60 gz_cfL pf' l → gz_UL x' 0 → gz_At x' 1355 lv [.int 1] M'
section
variable {B : Prop} {x : gz_X} {pf : Nat → Bool} {l : Launch} {b L i k : Nat} {xs : Nat → Int32} {M : gz_M}
theorem gq_m6 (hL : L ≤ 3072) : (nI L - 6).toInt = (L : Int) - 6 := by
  by_cases h : 6 ≤ L
  · rw [show (6 : Int32) = nI 6 from rfl, gp_subI h, nI_toInt (by omega)]
    omega
  · have : L = 0 ∨ L = 1 ∨ L = 2 ∨ L = 3 ∨ L = 4 ∨ L = 5 := by omega
    rcases this with rfl | rfl | rfl | rfl | rfl | rfl <;> decide
theorem gq_cases (hl9 : l.stackTraces = false) (hbnd : B → ∀ z, gp_okB z → gp_bnd (gp_tab z.1)) (F : gq_LF x pf l b L xs) (hL : L ≤ 3072) (hi : i + 6 ≤ L) (hu : gz_UL x (k + 1)) (hR : gp_R B pf (gz_sC M) (gz_sR M)) (kk : gq_K B x l b L xs i k) {a : Int32} : gz_At x 40 (gq_lv x b i) [.int a] M := by
  have out : a.toInt < 0 ∨ 39 < a.toInt → gz_At x 40 (gq_lv x b i) [.int a] M := fun h => gr_tsOut 1348 F.1 dL_law_40 h (by decide) (kk x pf M gz_StL.rf F (hu.le (by omega)) hR)
  rcases pk_ix a (n := 40) (by omega) with ha | ha | ⟨j, hj, rfl⟩
  · exact out (Or.inl (gp_tneg ha))
  · have g := gp_tge (by omega) ha
    exact out (Or.inr (by omega))
  · clear out
    match j, hj with
    | 0, _ => exact gr_tsIn (nI 0) 176 216 F.1 dL_law_40 rfl (by decide) (by decide) (by decide) (by decide) (gq_case_0 hl9 F hL hi hu hR kk)
    | 1, _ => exact gr_tsIn (nI 1) 201 241 F.1 dL_law_40 rfl (by decide) (by decide) (by decide) (by decide) (gq_case_1 hl9 F hL hi hu hR kk)
    | 2, _ => exact gr_tsIn (nI 2) 226 266 F.1 dL_law_40 rfl (by decide) (by decide) (by decide) (by decide) (gq_case_2 hl9 F hL hi hu hR kk)
    | 3, _ => exact gr_tsIn (nI 3) 239 279 F.1 dL_law_40 rfl (by decide) (by decide) (by decide) (by decide) (gq_case_3 hl9 F hL hi hu hR kk)
    | 4, _ => exact gr_tsIn (nI 4) 252 292 F.1 dL_law_40 rfl (by decide) (by decide) (by decide) (by decide) (gq_case_4 hl9 F hL hi hu hR kk)
    | 5, _ => exact gr_tsIn (nI 5) 292 332 F.1 dL_law_40 rfl (by decide) (by decide) (by decide) (by decide) (gq_case_5 hl9 F hL hi hu hR kk)
    | 6, _ => exact gr_tsIn (nI 6) 320 360 F.1 dL_law_40 rfl (by decide) (by decide) (by decide) (by decide) (gq_case_6 hl9 F hL hi hu hR kk)
    | 7, _ => exact gr_tsIn (nI 7) 381 421 F.1 dL_law_40 rfl (by decide) (by decide) (by decide) (by decide) (gq_case_7 hl9 F hL hi hu hR kk)
    | 8, _ => exact gr_tsIn (nI 8) 394 434 F.1 dL_law_40 rfl (by decide) (by decide) (by decide) (by decide) (gq_case_8 hl9 F hL hi hu hR kk)
    | 9, _ => exact gr_tsIn (nI 9) 434 474 F.1 dL_law_40 rfl (by decide) (by decide) (by decide) (by decide) (gq_case_9 hl9 F hL hi hu hR kk)
    | 10, _ => exact gr_tsIn (nI 10) 459 499 F.1 dL_law_40 rfl (by decide) (by decide) (by decide) (by decide) (gq_case_10 hl9 F hL hi hu hR kk)
    | 11, _ => exact gr_tsIn (nI 11) 484 524 F.1 dL_law_40 rfl (by decide) (by decide) (by decide) (by decide) (gq_case_11 hl9 F hL hi hu hR kk)
    | 12, _ => exact gr_tsIn (nI 12) 497 537 F.1 dL_law_40 rfl (by decide) (by decide) (by decide) (by decide) (gq_case_12 hl9 F hL hi hu hR kk)
    | 13, _ => exact gr_tsIn (nI 13) 522 562 F.1 dL_law_40 rfl (by decide) (by decide) (by decide) (by decide) (gq_case_13 hl9 F hL hi hu hR kk)
    | 14, _ => exact gr_tsIn (nI 14) 547 587 F.1 dL_law_40 rfl (by decide) (by decide) (by decide) (by decide) (gq_case_14 hl9 F hL hi hu hR kk)
    | 15, _ => exact gr_tsIn (nI 15) 572 612 F.1 dL_law_40 rfl (by decide) (by decide) (by decide) (by decide) (gq_case_15 hl9 F hL hi hu hR kk)
    | 16, _ => exact gr_tsIn (nI 16) 597 637 F.1 dL_law_40 rfl (by decide) (by decide) (by decide) (by decide) (gq_case_16 hl9 F hL hi hu hR kk)
    | 17, _ => exact gr_tsIn (nI 17) 610 650 F.1 dL_law_40 rfl (by decide) (by decide) (by decide) (by decide) (gq_case_17 hl9 F hL hi hu hR kk)
    | 18, _ => exact gr_tsIn (nI 18) 623 663 F.1 dL_law_40 rfl (by decide) (by decide) (by decide) (by decide) (gq_case_18 hl9 F hL hi hu hR kk)
    | 19, _ => exact gr_tsIn (nI 19) 660 700 F.1 dL_law_40 rfl (by decide) (by decide) (by decide) (by decide) (gq_case_19 hl9 F hL hi hu hR kk)
    | 20, _ => exact gr_tsIn (nI 20) 697 737 F.1 dL_law_40 rfl (by decide) (by decide) (by decide) (by decide) (gq_case_20 hl9 F hL hi hu hR kk)
    | 21, _ => exact gr_tsIn (nI 21) 746 786 F.1 dL_law_40 rfl (by decide) (by decide) (by decide) (by decide) (gq_case_21 hl9 F hL hi hu hR kk)
    | 22, _ => exact gr_tsIn (nI 22) 771 811 F.1 dL_law_40 rfl (by decide) (by decide) (by decide) (by decide) (gq_case_22 hl9 hbnd F hL hi hu hR kk)
    | 23, _ => exact gr_tsIn (nI 23) 796 836 F.1 dL_law_40 rfl (by decide) (by decide) (by decide) (by decide) (gq_case_23 hl9 F hL hi hu hR kk)
    | 24, _ => exact gr_tsIn (nI 24) 809 849 F.1 dL_law_40 rfl (by decide) (by decide) (by decide) (by decide) (gq_case_24 hl9 hbnd F hL hi hu hR kk)
    | 25, _ => exact gr_tsIn (nI 25) 846 886 F.1 dL_law_40 rfl (by decide) (by decide) (by decide) (by decide) (gq_case_25 hl9 F hL hi hu hR kk)
    | 26, _ => exact gr_tsIn (nI 26) 883 923 F.1 dL_law_40 rfl (by decide) (by decide) (by decide) (by decide) (gq_case_26 hl9 F hL hi hu hR kk)
    | 27, _ => exact gr_tsIn (nI 27) 920 960 F.1 dL_law_40 rfl (by decide) (by decide) (by decide) (by decide) (gq_case_27 hl9 F hL hi hu hR kk)
    | 28, _ => exact gr_tsIn (nI 28) 945 985 F.1 dL_law_40 rfl (by decide) (by decide) (by decide) (by decide) (gq_case_28 hl9 F hL hi hu hR kk)
    | 29, _ => exact gr_tsIn (nI 29) 1018 1058 F.1 dL_law_40 rfl (by decide) (by decide) (by decide) (by decide) (gq_case_29 hl9 F hL hi hu hR kk)
    | 30, _ => exact gr_tsIn (nI 30) 1055 1095 F.1 dL_law_40 rfl (by decide) (by decide) (by decide) (by decide) (gq_case_30 hl9 F hL hi hu hR kk)
    | 31, _ => exact gr_tsIn (nI 31) 1092 1132 F.1 dL_law_40 rfl (by decide) (by decide) (by decide) (by decide) (gq_case_31 hl9 F hL hi hu hR kk)
    | 32, _ => exact gr_tsIn (nI 32) 1117 1157 F.1 dL_law_40 rfl (by decide) (by decide) (by decide) (by decide) (gq_case_32 hl9 F hL hi hu hR kk)
    | 33, _ => exact gr_tsIn (nI 33) 1142 1182 F.1 dL_law_40 rfl (by decide) (by decide) (by decide) (by decide) (gq_case_33 hl9 F hL hi hu hR kk)
    | 34, _ => exact gr_tsIn (nI 34) 1155 1195 F.1 dL_law_40 rfl (by decide) (by decide) (by decide) (by decide) (gq_case_34 hl9 F hL hi hu hR kk)
    | 35, _ => exact gr_tsIn (nI 35) 1168 1208 F.1 dL_law_40 rfl (by decide) (by decide) (by decide) (by decide) (gq_case_35 hl9 F hL hi hu hR kk)
    | 36, _ => exact gr_tsIn (nI 36) 1205 1245 F.1 dL_law_40 rfl (by decide) (by decide) (by decide) (by decide) (gq_case_36 hl9 F hL hi hu hR kk)
    | 37, _ => exact gr_tsIn (nI 37) 1230 1270 F.1 dL_law_40 rfl (by decide) (by decide) (by decide) (by decide) (gq_case_37 hl9 F hL hi hu hR kk)
    | 38, _ => exact gr_tsIn (nI 38) 1255 1295 F.1 dL_law_40 rfl (by decide) (by decide) (by decide) (by decide) (gq_case_38 hl9 F hL hi hu hR kk)
    | 39, _ => exact gr_tsIn (nI 39) 1280 1320 F.1 dL_law_40 rfl (by decide) (by decide) (by decide) (by decide) (gq_case_39 hl9 F hL hi hu hR kk)
    | j + 40, hj => exact absurd hj (by omega)
theorem gq_loop (hl9 : l.stackTraces = false) (hbnd : B → ∀ z, gp_okB z → gp_bnd (gp_tab z.1)) (hL : L ≤ 3072) : ∀ (k : Nat) (x : gz_X) (pf : Nat → Bool) (M : gz_M) (i : Nat), gq_LF x pf l b L xs → L < i + 6 * k + 6 → i ≤ 3078 → gz_UL x k → gp_R B pf (gz_sC M) (gz_sR M) → gq_E x l → gz_At x 23 (gq_lv x b i) [] M := by
  intro k
  induction k with
  | zero =>
    intro x pf M i F hk hi hu hR hE
    refine gr_iload F.1 dL_law_23 4 rfl ?_
    refine gr_aload_n F.1 dL_law_25 0 rfl rfl ?_
    refine gr_slen F dL_law_26 ?_
    refine gr_bipush 6 F.1 dL_law_27 (by decide) ?_
    refine gr_isub F.1 dL_law_29 ?_
    refine gr_icmp_gt 1354 F.1 dL_law_30 (by decide) (fun _ => ?_) (fun h => ?_)
    · refine gr_iconst 1 F.1 dL_law_1354 rfl ?_
      exact hE x pf M _ gz_StL.rf F.1 hu
    · refine absurd ?_ h
      rw [Int32.lt_iff_toInt_lt, gq_m6 hL, nI_toInt (by omega)]
      omega
  | succ k ih =>
    intro x pf M i F hk hi hu hR hE
    refine gr_iload F.1 dL_law_23 4 rfl ?_
    refine gr_aload_n F.1 dL_law_25 0 rfl rfl ?_
    refine gr_slen F dL_law_26 ?_
    refine gr_bipush 6 F.1 dL_law_27 (by decide) ?_
    refine gr_isub F.1 dL_law_29 ?_
    refine gr_icmp_gt 1354 F.1 dL_law_30 (by decide) (fun _ => ?_) (fun h => ?_)
    · refine gr_iconst 1 F.1 dL_law_1354 rfl ?_
      exact hE x pf M _ gz_StL.rf F.1 (hu.le (by omega))
    · have hi6 : i + 6 ≤ L := by
        rw [Int32.lt_iff_toInt_lt, gq_m6 hL, nI_toInt (by omega)] at h
        omega
      refine gr_aload_n F.1 dL_law_33 0 rfl rfl ?_
      refine gr_iload F.1 dL_law_34 4 rfl ?_
      refine gr_sld F (by omega) hL dL_law_36 ?_
      refine gr_bipush 63 F.1 dL_law_37 (by decide) ?_
      refine gr_iand F.1 dL_law_39 ?_
      refine gq_cases hl9 hbnd F hL hi6 hu hR (fun x1 pf1 M1 hS F1 hu1 hR1 => ?_)
      refine gr_iinc 6 ((4, .int (nI (i + 6))) :: [(0, .ref b), (1, .ref (gx_ad x1 0)), (2, .ref (gx_ad x1 1)), (3, .ref (gx_ad x1 2))]) F1.1 dL_law_1348 4 rfl rfl (by rw [show (6 : Int32) = nI 6 from rfl, nI_add]) (by decide) rfl ?_
      refine gr_goto 23 F1.1 dL_law_1351 (by decide) ?_
      refine gr_sub (lv' := gq_lv x1 b (i + 6)) [1, 2, 3, 4, 0] rfl ?_
      exact ih x1 pf1 M1 (i + 6) F1 (by omega) (by omega) hu1 hR1 (fun x' pf' M' lv h1 h2 h3 => hE x' pf' M' lv (hS.tr h1) h2 h3)
end
