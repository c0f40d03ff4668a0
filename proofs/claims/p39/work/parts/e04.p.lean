section
variable {B : Prop} {x : gz_X} {pf : Nat → Bool} {l : Launch} {b L i k : Nat} {xs : Nat → Int32} {M : gz_M}
theorem gq_case_14 (hl9 : l.stackTraces = false) (F : gq_LF x pf l b L xs) (hL : L ≤ 3072) (hi : i + 6 ≤ L) (hu : gz_UL x (k + 1)) (hR : gp_R B pf (gz_sC M) (gz_sR M)) (kk : gq_K B x l b L xs i k) : gz_At x 587 (gq_lv x b i) [] M := by
  obtain ⟨cu, tx, bk, us, ks, o, h⟩ := hR
  have hc := hu.c
  obtain ⟨v, Mc, Mr, e1, e2, hRR⟩ := h.q (gp_a16 h.1 (xs (i + 1)))
  refine gr_aload_n F.1 dL_law_587 1 rfl rfl ?_
  refine gq_arg F hL (q := 1) rfl (by omega) 0 4 rfl rfl dL_law_588 dL_law_589 dL_law_591 dL_law_592 dL_law_593 ?_
  refine gr_callI (kb := 0) [.int (xs (i + 1))] F.1 (gz_liftCI (asF := fun ad => [.ref (ad 0), .int (xs (i + 1))]) (c11_moded e1)) rfl wm_RL_90 rfl (F.1.kd gk_L0).1 ((F.1.kd gk_L0).2 _ _ _ _) rfl (by decide) (by decide) rfl (Nat.le_of_ble_eq_true rfl) hc dL_law_594 ?_
  refine gr_pop F.1 dL_law_597 rfl ?_
  refine gr_aload_n F.1 dL_law_598 2 rfl rfl ?_
  refine gq_arg F hL (q := 1) rfl (by omega) 0 4 rfl rfl dL_law_599 dL_law_600 dL_law_602 dL_law_603 dL_law_604 ?_
  have e2b : f12_moded (xs (i + 1)) (gz_sR (gz_pC M Mc)) = some (v, Mr) := by rw [gz_sRpC]; exact e2
  refine gr_callI (kb := 1) [.int (xs (i + 1))] F.1 (gz_liftRI (asF := fun ad => [.ref (ad 0), .int (xs (i + 1))]) (c12_moded e2b)) rfl wm_RL_93 rfl (F.1.kd gk_L1).1 ((F.1.kd gk_L1).2 _ _ _ _) rfl (by decide) (by decide) rfl (Nat.le_of_ble_eq_true rfl) hc dL_law_605 ?_
  refine gr_pop F.1 dL_law_608 rfl ?_
  refine gr_goto 1348 F.1 dL_law_609 (by decide) ?_
  exact kk x pf _ gz_StL.rf F (hu.le (by omega)) (by rw [gz_sCpR, gz_sCpC, gz_sRpR]; exact hRR)
theorem gq_case_15 (hl9 : l.stackTraces = false) (F : gq_LF x pf l b L xs) (hL : L ≤ 3072) (hi : i + 6 ≤ L) (hu : gz_UL x (k + 1)) (hR : gp_R B pf (gz_sC M) (gz_sR M)) (kk : gq_K B x l b L xs i k) : gz_At x 612 (gq_lv x b i) [] M := by
  obtain ⟨cu, tx, bk, us, ks, o, h⟩ := hR
  have hc := hu.c
  obtain ⟨v, Mc, Mr, e1, e2, hRR⟩ := h.q (gp_a17 h.1 (xs (i + 1)))
  refine gr_aload_n F.1 dL_law_612 1 rfl rfl ?_
  refine gq_arg F hL (q := 1) rfl (by omega) 0 4 rfl rfl dL_law_613 dL_law_614 dL_law_616 dL_law_617 dL_law_618 ?_
  refine gr_callI (kb := 0) [.int (xs (i + 1))] F.1 (gz_liftCI (asF := fun ad => [.ref (ad 0), .int (xs (i + 1))]) (c11_readers e1)) rfl wm_RL_94 rfl (F.1.kd gk_L0).1 ((F.1.kd gk_L0).2 _ _ _ _) rfl (by decide) (by decide) rfl (Nat.le_of_ble_eq_true rfl) hc dL_law_619 ?_
  refine gr_pop F.1 dL_law_622 rfl ?_
  refine gr_aload_n F.1 dL_law_623 2 rfl rfl ?_
  refine gq_arg F hL (q := 1) rfl (by omega) 0 4 rfl rfl dL_law_624 dL_law_625 dL_law_627 dL_law_628 dL_law_629 ?_
  have e2b : f12_readers (xs (i + 1)) (gz_sR (gz_pC M Mc)) = some (v, Mr) := by rw [gz_sRpC]; exact e2
  refine gr_callI (kb := 1) [.int (xs (i + 1))] F.1 (gz_liftRI (asF := fun ad => [.ref (ad 0), .int (xs (i + 1))]) (c12_readers e2b)) rfl wm_RL_97 rfl (F.1.kd gk_L1).1 ((F.1.kd gk_L1).2 _ _ _ _) rfl (by decide) (by decide) rfl (Nat.le_of_ble_eq_true rfl) hc dL_law_630 ?_
  refine gr_pop F.1 dL_law_633 rfl ?_
  refine gr_goto 1348 F.1 dL_law_634 (by decide) ?_
  exact kk x pf _ gz_StL.rf F (hu.le (by omega)) (by rw [gz_sCpR, gz_sCpC, gz_sRpR]; exact hRR)
theorem gq_case_16 (hl9 : l.stackTraces = false) (F : gq_LF x pf l b L xs) (hL : L ≤ 3072) (hi : i + 6 ≤ L) (hu : gz_UL x (k + 1)) (hR : gp_R B pf (gz_sC M) (gz_sR M)) (kk : gq_K B x l b L xs i k) : gz_At x 637 (gq_lv x b i) [] M := by
  obtain ⟨cu, tx, bk, us, ks, o, h⟩ := hR
  have hc := hu.c
  obtain ⟨v, Mc, Mr, e1, e2, hRR⟩ := h.q (gp_a18 h.1 )
  refine gr_aload_n F.1 dL_law_637 1 rfl rfl ?_
  refine gr_callI (kb := 0) [] F.1 (gz_liftCI (asF := fun ad => [.ref (ad 0)]) (c11_read e1)) rfl wm_RL_98 rfl (F.1.kd gk_L0).1 ((F.1.kd gk_L0).2 _ _ _ _) rfl (by decide) (by decide) rfl (Nat.le_of_ble_eq_true rfl) hc dL_law_638 ?_
  refine gr_pop F.1 dL_law_641 rfl ?_
  refine gr_aload_n F.1 dL_law_642 2 rfl rfl ?_
  have e2b : f12_read  (gz_sR (gz_pC M Mc)) = some (v, Mr) := by rw [gz_sRpC]; exact e2
  refine gr_callI (kb := 1) [] F.1 (gz_liftRI (asF := fun ad => [.ref (ad 0)]) (c12_read e2b)) rfl wm_RL_101 rfl (F.1.kd gk_L1).1 ((F.1.kd gk_L1).2 _ _ _ _) rfl (by decide) (by decide) rfl (Nat.le_of_ble_eq_true rfl) hc dL_law_643 ?_
  refine gr_pop F.1 dL_law_646 rfl ?_
  refine gr_goto 1348 F.1 dL_law_647 (by decide) ?_
  exact kk x pf _ gz_StL.rf F (hu.le (by omega)) (by rw [gz_sCpR, gz_sCpC, gz_sRpR]; exact hRR)
theorem gq_case_17 (hl9 : l.stackTraces = false) (F : gq_LF x pf l b L xs) (hL : L ≤ 3072) (hi : i + 6 ≤ L) (hu : gz_UL x (k + 1)) (hR : gp_R B pf (gz_sC M) (gz_sR M)) (kk : gq_K B x l b L xs i k) : gz_At x 650 (gq_lv x b i) [] M := by
  obtain ⟨cu, tx, bk, us, ks, o, h⟩ := hR
  have hc := hu.c
  obtain ⟨v, Mc, Mr, e1, e2, hRR⟩ := h.q (gp_a19 h.1 )
  refine gr_aload_n F.1 dL_law_650 1 rfl rfl ?_
  refine gr_callI (kb := 0) [] F.1 (gz_liftCI (asF := fun ad => [.ref (ad 0)]) (c11_twice e1)) rfl wm_RL_102 rfl (F.1.kd gk_L0).1 ((F.1.kd gk_L0).2 _ _ _ _) rfl (by decide) (by decide) rfl (Nat.le_of_ble_eq_true rfl) hc dL_law_651 ?_
  refine gr_pop F.1 dL_law_654 rfl ?_
  refine gr_aload_n F.1 dL_law_655 2 rfl rfl ?_
  have e2b : f12_twice  (gz_sR (gz_pC M Mc)) = some (v, Mr) := by rw [gz_sRpC]; exact e2
  refine gr_callI (kb := 1) [] F.1 (gz_liftRI (asF := fun ad => [.ref (ad 0)]) (c12_twice e2b)) rfl wm_RL_105 rfl (F.1.kd gk_L1).1 ((F.1.kd gk_L1).2 _ _ _ _) rfl (by decide) (by decide) rfl (Nat.le_of_ble_eq_true rfl) hc dL_law_656 ?_
  refine gr_pop F.1 dL_law_659 rfl ?_
  refine gr_goto 1348 F.1 dL_law_660 (by decide) ?_
  exact kk x pf _ gz_StL.rf F (hu.le (by omega)) (by rw [gz_sCpR, gz_sCpC, gz_sRpR]; exact hRR)
theorem gq_case_18 (hl9 : l.stackTraces = false) (F : gq_LF x pf l b L xs) (hL : L ≤ 3072) (hi : i + 6 ≤ L) (hu : gz_UL x (k + 1)) (hR : gp_R B pf (gz_sC M) (gz_sR M)) (kk : gq_K B x l b L xs i k) : gz_At x 663 (gq_lv x b i) [] M := by
  obtain ⟨cu, tx, bk, us, ks, o, h⟩ := hR
  have hc := hu.c
  obtain ⟨v, Mc, Mr, e1, e2, hRR⟩ := h.q (gp_a20 h.1 (xs (i + 1)) (xs (i + 2)))
  refine gr_aload_n F.1 dL_law_663 1 rfl rfl ?_
  refine gq_arg F hL (q := 1) rfl (by omega) 0 4 rfl rfl dL_law_664 dL_law_665 dL_law_667 dL_law_668 dL_law_669 ?_
  refine gq_arg F hL (q := 2) rfl (by omega) 0 4 rfl rfl dL_law_670 dL_law_671 dL_law_673 dL_law_674 dL_law_675 ?_
  refine gr_callI (kb := 0) [.int (xs (i + 1)), .int (xs (i + 2))] F.1 (gz_liftCI (asF := fun ad => [.ref (ad 0), .int (xs (i + 1)), .int (xs (i + 2))]) (c11_longest e1)) rfl wm_RL_106 rfl (F.1.kd gk_L0).1 ((F.1.kd gk_L0).2 _ _ _ _) rfl (by decide) (by decide) rfl (Nat.le_of_ble_eq_true rfl) hc dL_law_676 ?_
  refine gr_pop F.1 dL_law_679 rfl ?_
  refine gr_aload_n F.1 dL_law_680 2 rfl rfl ?_
  refine gq_arg F hL (q := 1) rfl (by omega) 0 4 rfl rfl dL_law_681 dL_law_682 dL_law_684 dL_law_685 dL_law_686 ?_
  refine gq_arg F hL (q := 2) rfl (by omega) 0 4 rfl rfl dL_law_687 dL_law_688 dL_law_690 dL_law_691 dL_law_692 ?_
  have e2b : f12_longest (xs (i + 1)) (xs (i + 2)) (gz_sR (gz_pC M Mc)) = some (v, Mr) := by rw [gz_sRpC]; exact e2
  refine gr_callI (kb := 1) [.int (xs (i + 1)), .int (xs (i + 2))] F.1 (gz_liftRI (asF := fun ad => [.ref (ad 0), .int (xs (i + 1)), .int (xs (i + 2))]) (c12_longest e2b)) rfl wm_RL_109 rfl (F.1.kd gk_L1).1 ((F.1.kd gk_L1).2 _ _ _ _) rfl (by decide) (by decide) rfl (Nat.le_of_ble_eq_true rfl) hc dL_law_693 ?_
  refine gr_pop F.1 dL_law_696 rfl ?_
  refine gr_goto 1348 F.1 dL_law_697 (by decide) ?_
  exact kk x pf _ gz_StL.rf F (hu.le (by omega)) (by rw [gz_sCpR, gz_sCpC, gz_sRpR]; exact hRR)
theorem gq_case_19 (hl9 : l.stackTraces = false) (F : gq_LF x pf l b L xs) (hL : L ≤ 3072) (hi : i + 6 ≤ L) (hu : gz_UL x (k + 1)) (hR : gp_R B pf (gz_sC M) (gz_sR M)) (kk : gq_K B x l b L xs i k) : gz_At x 700 (gq_lv x b i) [] M := by
  obtain ⟨cu, tx, bk, us, ks, o, h⟩ := hR
  have hc := hu.c
  obtain ⟨v, Mc, Mr, e1, e2, hRR⟩ := h.q (gp_a21 h.1 (xs (i + 1)) (xs (i + 2)))
  refine gr_aload_n F.1 dL_law_700 1 rfl rfl ?_
  refine gq_arg F hL (q := 1) rfl (by omega) 0 4 rfl rfl dL_law_701 dL_law_702 dL_law_704 dL_law_705 dL_law_706 ?_
  refine gq_arg F hL (q := 2) rfl (by omega) 0 4 rfl rfl dL_law_707 dL_law_708 dL_law_710 dL_law_711 dL_law_712 ?_
  refine gr_callI (kb := 0) [.int (xs (i + 1)), .int (xs (i + 2))] F.1 (gz_liftCI (asF := fun ad => [.ref (ad 0), .int (xs (i + 1)), .int (xs (i + 2))]) (c11_matches e1)) rfl wm_RL_110 rfl (F.1.kd gk_L0).1 ((F.1.kd gk_L0).2 _ _ _ _) rfl (by decide) (by decide) rfl (Nat.le_of_ble_eq_true rfl) hc dL_law_713 ?_
  refine gr_pop F.1 dL_law_716 rfl ?_
  refine gr_aload_n F.1 dL_law_717 2 rfl rfl ?_
  refine gq_arg F hL (q := 1) rfl (by omega) 0 4 rfl rfl dL_law_718 dL_law_719 dL_law_721 dL_law_722 dL_law_723 ?_
  refine gq_arg F hL (q := 2) rfl (by omega) 0 4 rfl rfl dL_law_724 dL_law_725 dL_law_727 dL_law_728 dL_law_729 ?_
  have e2b : f12_matches (xs (i + 1)) (xs (i + 2)) (gz_sR (gz_pC M Mc)) = some (v, Mr) := by rw [gz_sRpC]; exact e2
  refine gr_callI (kb := 1) [.int (xs (i + 1)), .int (xs (i + 2))] F.1 (gz_liftRI (asF := fun ad => [.ref (ad 0), .int (xs (i + 1)), .int (xs (i + 2))]) (c12_matches e2b)) rfl wm_RL_113 rfl (F.1.kd gk_L1).1 ((F.1.kd gk_L1).2 _ _ _ _) rfl (by decide) (by decide) rfl (Nat.le_of_ble_eq_true rfl) hc dL_law_730 ?_
  refine gr_pop F.1 dL_law_733 rfl ?_
  refine gr_goto 1348 F.1 dL_law_734 (by decide) ?_
  exact kk x pf _ gz_StL.rf F (hu.le (by omega)) (by rw [gz_sCpR, gz_sCpC, gz_sRpR]; exact hRR)
theorem gq_case_20 (hl9 : l.stackTraces = false) (F : gq_LF x pf l b L xs) (hL : L ≤ 3072) (hi : i + 6 ≤ L) (hu : gz_UL x (k + 1)) (hR : gp_R B pf (gz_sC M) (gz_sR M)) (kk : gq_K B x l b L xs i k) : gz_At x 737 (gq_lv x b i) [] M := by
  obtain ⟨cu, tx, bk, us, ks, o, h⟩ := hR
  have hc := hu.c
  obtain ⟨v, Mc, Mr, e1, e2, hRR⟩ := h.q (gp_a22 h.1 (xs (i + 1)) (xs (i + 2)) (xs (i + 3)))
  refine gr_aload_n F.1 dL_law_737 1 rfl rfl ?_
  refine gq_arg F hL (q := 1) rfl (by omega) 0 4 rfl rfl dL_law_738 dL_law_739 dL_law_741 dL_law_742 dL_law_743 ?_
  refine gq_arg F hL (q := 2) rfl (by omega) 0 4 rfl rfl dL_law_744 dL_law_745 dL_law_747 dL_law_748 dL_law_749 ?_
  refine gq_arg F hL (q := 3) rfl (by omega) 0 4 rfl rfl dL_law_750 dL_law_751 dL_law_753 dL_law_754 dL_law_755 ?_
  refine gr_callI (kb := 0) [.int (xs (i + 1)), .int (xs (i + 2)), .int (xs (i + 3))] F.1 (gz_liftCI (asF := fun ad => [.ref (ad 0), .int (xs (i + 1)), .int (xs (i + 2)), .int (xs (i + 3))]) (c11_stands e1)) rfl wm_RL_114 rfl (F.1.kd gk_L0).1 ((F.1.kd gk_L0).2 _ _ _ _) rfl (by decide) (by decide) rfl (Nat.le_of_ble_eq_true rfl) hc dL_law_756 ?_
  refine gr_pop F.1 dL_law_759 rfl ?_
  refine gr_aload_n F.1 dL_law_760 2 rfl rfl ?_
  refine gq_arg F hL (q := 1) rfl (by omega) 0 4 rfl rfl dL_law_761 dL_law_762 dL_law_764 dL_law_765 dL_law_766 ?_
  refine gq_arg F hL (q := 2) rfl (by omega) 0 4 rfl rfl dL_law_767 dL_law_768 dL_law_770 dL_law_771 dL_law_772 ?_
  refine gq_arg F hL (q := 3) rfl (by omega) 0 4 rfl rfl dL_law_773 dL_law_774 dL_law_776 dL_law_777 dL_law_778 ?_
  have e2b : f12_stands (xs (i + 1)) (xs (i + 2)) (xs (i + 3)) (gz_sR (gz_pC M Mc)) = some (v, Mr) := by rw [gz_sRpC]; exact e2
  refine gr_callI (kb := 1) [.int (xs (i + 1)), .int (xs (i + 2)), .int (xs (i + 3))] F.1 (gz_liftRI (asF := fun ad => [.ref (ad 0), .int (xs (i + 1)), .int (xs (i + 2)), .int (xs (i + 3))]) (c12_stands e2b)) rfl wm_RL_118 rfl (F.1.kd gk_L1).1 ((F.1.kd gk_L1).2 _ _ _ _) rfl (by decide) (by decide) rfl (Nat.le_of_ble_eq_true rfl) hc dL_law_779 ?_
  refine gr_pop F.1 dL_law_782 rfl ?_
  refine gr_goto 1348 F.1 dL_law_783 (by decide) ?_
  exact kk x pf _ gz_StL.rf F (hu.le (by omega)) (by rw [gz_sCpR, gz_sCpC, gz_sRpR]; exact hRR)
theorem gq_case_21 (hl9 : l.stackTraces = false) (F : gq_LF x pf l b L xs) (hL : L ≤ 3072) (hi : i + 6 ≤ L) (hu : gz_UL x (k + 1)) (hR : gp_R B pf (gz_sC M) (gz_sR M)) (kk : gq_K B x l b L xs i k) : gz_At x 786 (gq_lv x b i) [] M := by
  obtain ⟨cu, tx, bk, us, ks, o, h⟩ := hR
  have hc := hu.c
  obtain ⟨v, Mc, Mr, e1, e2, hRR⟩ := h.q (gp_a23 h.1 (xs (i + 1)))
  refine gr_aload_n F.1 dL_law_786 1 rfl rfl ?_
  refine gq_arg F hL (q := 1) rfl (by omega) 0 4 rfl rfl dL_law_787 dL_law_788 dL_law_790 dL_law_791 dL_law_792 ?_
  refine gr_callI (kb := 0) [.int (xs (i + 1))] F.1 (gz_liftCI (asF := fun ad => [.ref (ad 0), .int (xs (i + 1))]) (c11_states e1)) rfl wm_RL_119 rfl (F.1.kd gk_L0).1 ((F.1.kd gk_L0).2 _ _ _ _) rfl (by decide) (by decide) rfl (Nat.le_of_ble_eq_true rfl) hc dL_law_793 ?_
  refine gr_pop F.1 dL_law_796 rfl ?_
  refine gr_aload_n F.1 dL_law_797 2 rfl rfl ?_
  refine gq_arg F hL (q := 1) rfl (by omega) 0 4 rfl rfl dL_law_798 dL_law_799 dL_law_801 dL_law_802 dL_law_803 ?_
  have e2b : f12_states (xs (i + 1)) (gz_sR (gz_pC M Mc)) = some (v, Mr) := by rw [gz_sRpC]; exact e2
  refine gr_callI (kb := 1) [.int (xs (i + 1))] F.1 (gz_liftRI (asF := fun ad => [.ref (ad 0), .int (xs (i + 1))]) (c12_states e2b)) rfl wm_RL_122 rfl (F.1.kd gk_L1).1 ((F.1.kd gk_L1).2 _ _ _ _) rfl (by decide) (by decide) rfl (Nat.le_of_ble_eq_true rfl) hc dL_law_804 ?_
  refine gr_pop F.1 dL_law_807 rfl ?_
  refine gr_goto 1348 F.1 dL_law_808 (by decide) ?_
  exact kk x pf _ gz_StL.rf F (hu.le (by omega)) (by rw [gz_sCpR, gz_sCpC, gz_sRpR]; exact hRR)
theorem gq_case_22 (hl9 : l.stackTraces = false) (hbnd : B → ∀ z, gp_okB z → gp_bnd (gp_tab z.1)) (F : gq_LF x pf l b L xs) (hL : L ≤ 3072) (hi : i + 6 ≤ L) (hu : gz_UL x (k + 1)) (hR : gp_R B pf (gz_sC M) (gz_sR M)) (kk : gq_K B x l b L xs i k) : gz_At x 811 (gq_lv x b i) [] M := by
  obtain ⟨cu, tx, bk, us, ks, o, h⟩ := hR
  have hc := hu.c
  obtain ⟨v, Mc, Mr, e1, e2, hRR⟩ := h.q (gp_a24 h.1 (fun g => hbnd g bk h.2.1) (xs (i + 1)))
  refine gr_aload_n F.1 dL_law_811 1 rfl rfl ?_
  refine gq_arg F hL (q := 1) rfl (by omega) 0 4 rfl rfl dL_law_812 dL_law_813 dL_law_815 dL_law_816 dL_law_817 ?_
  refine gr_callI (kb := 0) [.int (xs (i + 1))] F.1 (gz_liftCI (asF := fun ad => [.ref (ad 0), .int (xs (i + 1))]) (c11_shortest e1)) rfl wm_RL_123 rfl (F.1.kd gk_L0).1 ((F.1.kd gk_L0).2 _ _ _ _) rfl (by decide) (by decide) rfl (Nat.le_of_ble_eq_true rfl) hc dL_law_818 ?_
  refine gr_pop F.1 dL_law_821 rfl ?_
  refine gr_aload_n F.1 dL_law_822 2 rfl rfl ?_
  refine gq_arg F hL (q := 1) rfl (by omega) 0 4 rfl rfl dL_law_823 dL_law_824 dL_law_826 dL_law_827 dL_law_828 ?_
  have e2b : f12_shortest (xs (i + 1)) (gz_sR (gz_pC M Mc)) = some (v, Mr) := by rw [gz_sRpC]; exact e2
  refine gr_callI (kb := 1) [.int (xs (i + 1))] F.1 (gz_liftRI (asF := fun ad => [.ref (ad 0), .int (xs (i + 1))]) (c12_shortest e2b)) rfl wm_RL_126 rfl (F.1.kd gk_L1).1 ((F.1.kd gk_L1).2 _ _ _ _) rfl (by decide) (by decide) rfl (Nat.le_of_ble_eq_true rfl) hc dL_law_829 ?_
  refine gr_pop F.1 dL_law_832 rfl ?_
  refine gr_goto 1348 F.1 dL_law_833 (by decide) ?_
  exact kk x pf _ gz_StL.rf F (hu.le (by omega)) (by rw [gz_sCpR, gz_sCpC, gz_sRpR]; exact hRR)
theorem gq_case_23 (hl9 : l.stackTraces = false) (F : gq_LF x pf l b L xs) (hL : L ≤ 3072) (hi : i + 6 ≤ L) (hu : gz_UL x (k + 1)) (hR : gp_R B pf (gz_sC M) (gz_sR M)) (kk : gq_K B x l b L xs i k) : gz_At x 836 (gq_lv x b i) [] M := by
  obtain ⟨cu, tx, bk, us, ks, o, h⟩ := hR
  have hc := hu.c
  obtain ⟨v, Mc, Mr, e1, e2, hRR⟩ := h.q (gp_a25 h.1 )
  refine gr_aload_n F.1 dL_law_836 1 rfl rfl ?_
  refine gr_callI (kb := 0) [] F.1 (gz_liftCI (asF := fun ad => [.ref (ad 0)]) (c11_idle e1)) rfl wm_RL_127 rfl (F.1.kd gk_L0).1 ((F.1.kd gk_L0).2 _ _ _ _) rfl (by decide) (by decide) rfl (Nat.le_of_ble_eq_true rfl) hc dL_law_837 ?_
  refine gr_pop F.1 dL_law_840 rfl ?_
  refine gr_aload_n F.1 dL_law_841 2 rfl rfl ?_
  have e2b : f12_idle  (gz_sR (gz_pC M Mc)) = some (v, Mr) := by rw [gz_sRpC]; exact e2
  refine gr_callI (kb := 1) [] F.1 (gz_liftRI (asF := fun ad => [.ref (ad 0)]) (c12_idle e2b)) rfl wm_RL_130 rfl (F.1.kd gk_L1).1 ((F.1.kd gk_L1).2 _ _ _ _) rfl (by decide) (by decide) rfl (Nat.le_of_ble_eq_true rfl) hc dL_law_842 ?_
  refine gr_pop F.1 dL_law_845 rfl ?_
  refine gr_goto 1348 F.1 dL_law_846 (by decide) ?_
  exact kk x pf _ gz_StL.rf F (hu.le (by omega)) (by rw [gz_sCpR, gz_sCpC, gz_sRpR]; exact hRR)
theorem gq_case_24 (hl9 : l.stackTraces = false) (hbnd : B → ∀ z, gp_okB z → gp_bnd (gp_tab z.1)) (F : gq_LF x pf l b L xs) (hL : L ≤ 3072) (hi : i + 6 ≤ L) (hu : gz_UL x (k + 1)) (hR : gp_R B pf (gz_sC M) (gz_sR M)) (kk : gq_K B x l b L xs i k) : gz_At x 849 (gq_lv x b i) [] M := by
  obtain ⟨cu, tx, bk, us, ks, o, h⟩ := hR
  have hc := hu.c
  obtain ⟨v, Mc, Mr, e1, e2, hRR⟩ := h.q (gp_a26 h.1 (fun g => hbnd g bk h.2.1) (xs (i + 1)) (xs (i + 2)))
  refine gr_aload_n F.1 dL_law_849 1 rfl rfl ?_
  refine gq_arg F hL (q := 1) rfl (by omega) 0 4 rfl rfl dL_law_850 dL_law_851 dL_law_853 dL_law_854 dL_law_855 ?_
  refine gq_arg F hL (q := 2) rfl (by omega) 0 4 rfl rfl dL_law_856 dL_law_857 dL_law_859 dL_law_860 dL_law_861 ?_
  refine gr_callI (kb := 0) [.int (xs (i + 1)), .int (xs (i + 2))] F.1 (gz_liftCI (asF := fun ad => [.ref (ad 0), .int (xs (i + 1)), .int (xs (i + 2))]) (c11_overlap e1)) rfl wm_RL_131 rfl (F.1.kd gk_L0).1 ((F.1.kd gk_L0).2 _ _ _ _) rfl (by decide) (by decide) rfl (Nat.le_of_ble_eq_true rfl) hc dL_law_862 ?_
  refine gr_pop F.1 dL_law_865 rfl ?_
  refine gr_aload_n F.1 dL_law_866 2 rfl rfl ?_
  refine gq_arg F hL (q := 1) rfl (by omega) 0 4 rfl rfl dL_law_867 dL_law_868 dL_law_870 dL_law_871 dL_law_872 ?_
  refine gq_arg F hL (q := 2) rfl (by omega) 0 4 rfl rfl dL_law_873 dL_law_874 dL_law_876 dL_law_877 dL_law_878 ?_
  have e2b : f12_overlap (xs (i + 1)) (xs (i + 2)) (gz_sR (gz_pC M Mc)) = some (v, Mr) := by rw [gz_sRpC]; exact e2
  refine gr_callI (kb := 1) [.int (xs (i + 1)), .int (xs (i + 2))] F.1 (gz_liftRI (asF := fun ad => [.ref (ad 0), .int (xs (i + 1)), .int (xs (i + 2))]) (c12_overlap e2b)) rfl wm_RL_134 rfl (F.1.kd gk_L1).1 ((F.1.kd gk_L1).2 _ _ _ _) rfl (by decide) (by decide) rfl (Nat.le_of_ble_eq_true rfl) hc dL_law_879 ?_
  refine gr_pop F.1 dL_law_882 rfl ?_
  refine gr_goto 1348 F.1 dL_law_883 (by decide) ?_
  exact kk x pf _ gz_StL.rf F (hu.le (by omega)) (by rw [gz_sCpR, gz_sCpC, gz_sRpR]; exact hRR)
theorem gq_case_25 (hl9 : l.stackTraces = false) (F : gq_LF x pf l b L xs) (hL : L ≤ 3072) (hi : i + 6 ≤ L) (hu : gz_UL x (k + 1)) (hR : gp_R B pf (gz_sC M) (gz_sR M)) (kk : gq_K B x l b L xs i k) : gz_At x 886 (gq_lv x b i) [] M := by
  obtain ⟨cu, tx, bk, us, ks, o, h⟩ := hR
  have hc := hu.c
  obtain ⟨v, Mc, Mr, e1, e2, hRR⟩ := h.q (gp_a27 h.1 (xs (i + 1)) (xs (i + 2)))
  refine gr_aload_n F.1 dL_law_886 1 rfl rfl ?_
  refine gq_arg F hL (q := 1) rfl (by omega) 0 4 rfl rfl dL_law_887 dL_law_888 dL_law_890 dL_law_891 dL_law_892 ?_
  refine gq_arg F hL (q := 2) rfl (by omega) 0 4 rfl rfl dL_law_893 dL_law_894 dL_law_896 dL_law_897 dL_law_898 ?_
  refine gr_callI (kb := 0) [.int (xs (i + 1)), .int (xs (i + 2))] F.1 (gz_liftCI (asF := fun ad => [.ref (ad 0), .int (xs (i + 1)), .int (xs (i + 2))]) (c11_ways e1)) rfl wm_RL_135 rfl (F.1.kd gk_L0).1 ((F.1.kd gk_L0).2 _ _ _ _) rfl (by decide) (by decide) rfl (Nat.le_of_ble_eq_true rfl) hc dL_law_899 ?_
  refine gr_pop F.1 dL_law_902 rfl ?_
  refine gr_aload_n F.1 dL_law_903 2 rfl rfl ?_
  refine gq_arg F hL (q := 1) rfl (by omega) 0 4 rfl rfl dL_law_904 dL_law_905 dL_law_907 dL_law_908 dL_law_909 ?_
  refine gq_arg F hL (q := 2) rfl (by omega) 0 4 rfl rfl dL_law_910 dL_law_911 dL_law_913 dL_law_914 dL_law_915 ?_
  have e2b : f12_ways (xs (i + 1)) (xs (i + 2)) (gz_sR (gz_pC M Mc)) = some (v, Mr) := by rw [gz_sRpC]; exact e2
  refine gr_callI (kb := 1) [.int (xs (i + 1)), .int (xs (i + 2))] F.1 (gz_liftRI (asF := fun ad => [.ref (ad 0), .int (xs (i + 1)), .int (xs (i + 2))]) (c12_ways e2b)) rfl wm_RL_138 rfl (F.1.kd gk_L1).1 ((F.1.kd gk_L1).2 _ _ _ _) rfl (by decide) (by decide) rfl (Nat.le_of_ble_eq_true rfl) hc dL_law_916 ?_
  refine gr_pop F.1 dL_law_919 rfl ?_
  refine gr_goto 1348 F.1 dL_law_920 (by decide) ?_
  exact kk x pf _ gz_StL.rf F (hu.le (by omega)) (by rw [gz_sCpR, gz_sCpC, gz_sRpR]; exact hRR)
theorem gq_case_26 (hl9 : l.stackTraces = false) (F : gq_LF x pf l b L xs) (hL : L ≤ 3072) (hi : i + 6 ≤ L) (hu : gz_UL x (k + 1)) (hR : gp_R B pf (gz_sC M) (gz_sR M)) (kk : gq_K B x l b L xs i k) : gz_At x 923 (gq_lv x b i) [] M := by
  obtain ⟨cu, tx, bk, us, ks, o, h⟩ := hR
  have hc := hu.c
  obtain ⟨v, Mc, Mr, e1, e2, hRR⟩ := h.q (gp_a28 h.1 (xs (i + 1)) (xs (i + 2)))
  refine gr_aload_n F.1 dL_law_923 1 rfl rfl ?_
  refine gq_arg F hL (q := 1) rfl (by omega) 0 4 rfl rfl dL_law_924 dL_law_925 dL_law_927 dL_law_928 dL_law_929 ?_
  refine gq_arg F hL (q := 2) rfl (by omega) 0 4 rfl rfl dL_law_930 dL_law_931 dL_law_933 dL_law_934 dL_law_935 ?_
  refine gr_callI (kb := 0) [.int (xs (i + 1)), .int (xs (i + 2))] F.1 (gz_liftCI (asF := fun ad => [.ref (ad 0), .int (xs (i + 1)), .int (xs (i + 2))]) (c11_fewest e1)) rfl wm_RL_139 rfl (F.1.kd gk_L0).1 ((F.1.kd gk_L0).2 _ _ _ _) rfl (by decide) (by decide) rfl (Nat.le_of_ble_eq_true rfl) hc dL_law_936 ?_
  refine gr_pop F.1 dL_law_939 rfl ?_
  refine gr_aload_n F.1 dL_law_940 2 rfl rfl ?_
  refine gq_arg F hL (q := 1) rfl (by omega) 0 4 rfl rfl dL_law_941 dL_law_942 dL_law_944 dL_law_945 dL_law_946 ?_
  refine gq_arg F hL (q := 2) rfl (by omega) 0 4 rfl rfl dL_law_947 dL_law_948 dL_law_950 dL_law_951 dL_law_952 ?_
  have e2b : f12_fewest (xs (i + 1)) (xs (i + 2)) (gz_sR (gz_pC M Mc)) = some (v, Mr) := by rw [gz_sRpC]; exact e2
  refine gr_callI (kb := 1) [.int (xs (i + 1)), .int (xs (i + 2))] F.1 (gz_liftRI (asF := fun ad => [.ref (ad 0), .int (xs (i + 1)), .int (xs (i + 2))]) (c12_fewest e2b)) rfl wm_RL_142 rfl (F.1.kd gk_L1).1 ((F.1.kd gk_L1).2 _ _ _ _) rfl (by decide) (by decide) rfl (Nat.le_of_ble_eq_true rfl) hc dL_law_953 ?_
  refine gr_pop F.1 dL_law_956 rfl ?_
  refine gr_goto 1348 F.1 dL_law_957 (by decide) ?_
  exact kk x pf _ gz_StL.rf F (hu.le (by omega)) (by rw [gz_sCpR, gz_sCpC, gz_sRpR]; exact hRR)
theorem gq_case_27 (hl9 : l.stackTraces = false) (F : gq_LF x pf l b L xs) (hL : L ≤ 3072) (hi : i + 6 ≤ L) (hu : gz_UL x (k + 1)) (hR : gp_R B pf (gz_sC M) (gz_sR M)) (kk : gq_K B x l b L xs i k) : gz_At x 960 (gq_lv x b i) [] M := by
  obtain ⟨cu, tx, bk, us, ks, o, h⟩ := hR
  have hc := hu.c
  obtain ⟨v, Mc, Mr, e1, e2, hRR⟩ := h.q (gp_a29 h.1 (xs (i + 1)))
  refine gr_aload_n F.1 dL_law_960 1 rfl rfl ?_
  refine gq_arg F hL (q := 1) rfl (by omega) 0 4 rfl rfl dL_law_961 dL_law_962 dL_law_964 dL_law_965 dL_law_966 ?_
  refine gr_callI (kb := 0) [.int (xs (i + 1))] F.1 (gz_liftCI (asF := fun ad => [.ref (ad 0), .int (xs (i + 1))]) (c11_touched e1)) rfl wm_RL_143 rfl (F.1.kd gk_L0).1 ((F.1.kd gk_L0).2 _ _ _ _) rfl (by decide) (by decide) rfl (Nat.le_of_ble_eq_true rfl) hc dL_law_967 ?_
  refine gr_pop F.1 dL_law_970 rfl ?_
  refine gr_aload_n F.1 dL_law_971 2 rfl rfl ?_
  refine gq_arg F hL (q := 1) rfl (by omega) 0 4 rfl rfl dL_law_972 dL_law_973 dL_law_975 dL_law_976 dL_law_977 ?_
  have e2b : f12_touched (xs (i + 1)) (gz_sR (gz_pC M Mc)) = some (v, Mr) := by rw [gz_sRpC]; exact e2
  refine gr_callI (kb := 1) [.int (xs (i + 1))] F.1 (gz_liftRI (asF := fun ad => [.ref (ad 0), .int (xs (i + 1))]) (c12_touched e2b)) rfl wm_RL_146 rfl (F.1.kd gk_L1).1 ((F.1.kd gk_L1).2 _ _ _ _) rfl (by decide) (by decide) rfl (Nat.le_of_ble_eq_true rfl) hc dL_law_978 ?_
  refine gr_pop F.1 dL_law_981 rfl ?_
  refine gr_goto 1348 F.1 dL_law_982 (by decide) ?_
  exact kk x pf _ gz_StL.rf F (hu.le (by omega)) (by rw [gz_sCpR, gz_sCpC, gz_sRpR]; exact hRR)
end
