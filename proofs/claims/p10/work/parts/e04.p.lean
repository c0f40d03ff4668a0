section
variable {B : Prop} {x : gz_X} {pf : Nat → Bool} {l : Launch} {b L i k : Nat} {xs : Nat → Int32} {M : gz_M}
theorem gq_case_14 (hl9 : l.stackTraces = false) (F : gq_LF x pf l b L xs) (hL : L ≤ 3072) (hi : i + 6 ≤ L) (hu : gz_UL x (k + 1)) (hR : gp_R B pf (gz_sC M) (gz_sR M)) (kk : gq_K B x l b L xs i k) : gz_At x 615 (gq_lv x b i) [] M := by
  obtain ⟨cu, tx, bk, us, ks, o, h⟩ := hR
  have hc := hu.c
  obtain ⟨v, Mc, Mr, e1, e2, hRR⟩ := h.q (gp_a16 h.1 (xs (i + 1)))
  refine gr_aload_n F.1 dL_law_615 1 rfl rfl ?_
  refine gq_arg F hL (q := 1) rfl (by omega) 0 4 rfl rfl dL_law_616 dL_law_617 dL_law_619 dL_law_620 dL_law_621 ?_
  refine gr_callI (kb := 0) [.int (xs (i + 1))] F.1 (gz_liftCI (asF := fun ad => [.ref (ad 0), .int (xs (i + 1))]) (c11_moded e1)) rfl wm_RL_93 rfl (F.1.kd gk_L0).1 ((F.1.kd gk_L0).2 _ _ _ _) rfl (by decide) (by decide) rfl (Nat.le_of_ble_eq_true rfl) hc dL_law_622 ?_
  refine gr_pop F.1 dL_law_625 rfl ?_
  refine gr_aload_n F.1 dL_law_626 2 rfl rfl ?_
  refine gq_arg F hL (q := 1) rfl (by omega) 0 4 rfl rfl dL_law_627 dL_law_628 dL_law_630 dL_law_631 dL_law_632 ?_
  have e2b : f12_moded (xs (i + 1)) (gz_sR (gz_pC M Mc)) = some (v, Mr) := by rw [gz_sRpC]; exact e2
  refine gr_callI (kb := 1) [.int (xs (i + 1))] F.1 (gz_liftRI (asF := fun ad => [.ref (ad 0), .int (xs (i + 1))]) (c12_moded e2b)) rfl wm_RL_96 rfl (F.1.kd gk_L1).1 ((F.1.kd gk_L1).2 _ _ _ _) rfl (by decide) (by decide) rfl (Nat.le_of_ble_eq_true rfl) hc dL_law_633 ?_
  refine gr_pop F.1 dL_law_636 rfl ?_
  refine gr_goto 1376 F.1 dL_law_637 (by decide) ?_
  exact kk x pf _ gz_StL.rf F (hu.le (by omega)) (by rw [gz_sCpR, gz_sCpC, gz_sRpR]; exact hRR)
theorem gq_case_15 (hl9 : l.stackTraces = false) (F : gq_LF x pf l b L xs) (hL : L ≤ 3072) (hi : i + 6 ≤ L) (hu : gz_UL x (k + 1)) (hR : gp_R B pf (gz_sC M) (gz_sR M)) (kk : gq_K B x l b L xs i k) : gz_At x 640 (gq_lv x b i) [] M := by
  obtain ⟨cu, tx, bk, us, ks, o, h⟩ := hR
  have hc := hu.c
  obtain ⟨v, Mc, Mr, e1, e2, hRR⟩ := h.q (gp_a17 h.1 (xs (i + 1)))
  refine gr_aload_n F.1 dL_law_640 1 rfl rfl ?_
  refine gq_arg F hL (q := 1) rfl (by omega) 0 4 rfl rfl dL_law_641 dL_law_642 dL_law_644 dL_law_645 dL_law_646 ?_
  refine gr_callI (kb := 0) [.int (xs (i + 1))] F.1 (gz_liftCI (asF := fun ad => [.ref (ad 0), .int (xs (i + 1))]) (c11_readers e1)) rfl wm_RL_97 rfl (F.1.kd gk_L0).1 ((F.1.kd gk_L0).2 _ _ _ _) rfl (by decide) (by decide) rfl (Nat.le_of_ble_eq_true rfl) hc dL_law_647 ?_
  refine gr_pop F.1 dL_law_650 rfl ?_
  refine gr_aload_n F.1 dL_law_651 2 rfl rfl ?_
  refine gq_arg F hL (q := 1) rfl (by omega) 0 4 rfl rfl dL_law_652 dL_law_653 dL_law_655 dL_law_656 dL_law_657 ?_
  have e2b : f12_readers (xs (i + 1)) (gz_sR (gz_pC M Mc)) = some (v, Mr) := by rw [gz_sRpC]; exact e2
  refine gr_callI (kb := 1) [.int (xs (i + 1))] F.1 (gz_liftRI (asF := fun ad => [.ref (ad 0), .int (xs (i + 1))]) (c12_readers e2b)) rfl wm_RL_100 rfl (F.1.kd gk_L1).1 ((F.1.kd gk_L1).2 _ _ _ _) rfl (by decide) (by decide) rfl (Nat.le_of_ble_eq_true rfl) hc dL_law_658 ?_
  refine gr_pop F.1 dL_law_661 rfl ?_
  refine gr_goto 1376 F.1 dL_law_662 (by decide) ?_
  exact kk x pf _ gz_StL.rf F (hu.le (by omega)) (by rw [gz_sCpR, gz_sCpC, gz_sRpR]; exact hRR)
theorem gq_case_16 (hl9 : l.stackTraces = false) (F : gq_LF x pf l b L xs) (hL : L ≤ 3072) (hi : i + 6 ≤ L) (hu : gz_UL x (k + 1)) (hR : gp_R B pf (gz_sC M) (gz_sR M)) (kk : gq_K B x l b L xs i k) : gz_At x 665 (gq_lv x b i) [] M := by
  obtain ⟨cu, tx, bk, us, ks, o, h⟩ := hR
  have hc := hu.c
  obtain ⟨v, Mc, Mr, e1, e2, hRR⟩ := h.q (gp_a18 h.1 )
  refine gr_aload_n F.1 dL_law_665 1 rfl rfl ?_
  refine gr_callI (kb := 0) [] F.1 (gz_liftCI (asF := fun ad => [.ref (ad 0)]) (c11_read e1)) rfl wm_RL_101 rfl (F.1.kd gk_L0).1 ((F.1.kd gk_L0).2 _ _ _ _) rfl (by decide) (by decide) rfl (Nat.le_of_ble_eq_true rfl) hc dL_law_666 ?_
  refine gr_pop F.1 dL_law_669 rfl ?_
  refine gr_aload_n F.1 dL_law_670 2 rfl rfl ?_
  have e2b : f12_read  (gz_sR (gz_pC M Mc)) = some (v, Mr) := by rw [gz_sRpC]; exact e2
  refine gr_callI (kb := 1) [] F.1 (gz_liftRI (asF := fun ad => [.ref (ad 0)]) (c12_read e2b)) rfl wm_RL_104 rfl (F.1.kd gk_L1).1 ((F.1.kd gk_L1).2 _ _ _ _) rfl (by decide) (by decide) rfl (Nat.le_of_ble_eq_true rfl) hc dL_law_671 ?_
  refine gr_pop F.1 dL_law_674 rfl ?_
  refine gr_goto 1376 F.1 dL_law_675 (by decide) ?_
  exact kk x pf _ gz_StL.rf F (hu.le (by omega)) (by rw [gz_sCpR, gz_sCpC, gz_sRpR]; exact hRR)
theorem gq_case_17 (hl9 : l.stackTraces = false) (F : gq_LF x pf l b L xs) (hL : L ≤ 3072) (hi : i + 6 ≤ L) (hu : gz_UL x (k + 1)) (hR : gp_R B pf (gz_sC M) (gz_sR M)) (kk : gq_K B x l b L xs i k) : gz_At x 678 (gq_lv x b i) [] M := by
  obtain ⟨cu, tx, bk, us, ks, o, h⟩ := hR
  have hc := hu.c
  obtain ⟨v, Mc, Mr, e1, e2, hRR⟩ := h.q (gp_a19 h.1 )
  refine gr_aload_n F.1 dL_law_678 1 rfl rfl ?_
  refine gr_callI (kb := 0) [] F.1 (gz_liftCI (asF := fun ad => [.ref (ad 0)]) (c11_twice e1)) rfl wm_RL_105 rfl (F.1.kd gk_L0).1 ((F.1.kd gk_L0).2 _ _ _ _) rfl (by decide) (by decide) rfl (Nat.le_of_ble_eq_true rfl) hc dL_law_679 ?_
  refine gr_pop F.1 dL_law_682 rfl ?_
  refine gr_aload_n F.1 dL_law_683 2 rfl rfl ?_
  have e2b : f12_twice  (gz_sR (gz_pC M Mc)) = some (v, Mr) := by rw [gz_sRpC]; exact e2
  refine gr_callI (kb := 1) [] F.1 (gz_liftRI (asF := fun ad => [.ref (ad 0)]) (c12_twice e2b)) rfl wm_RL_108 rfl (F.1.kd gk_L1).1 ((F.1.kd gk_L1).2 _ _ _ _) rfl (by decide) (by decide) rfl (Nat.le_of_ble_eq_true rfl) hc dL_law_684 ?_
  refine gr_pop F.1 dL_law_687 rfl ?_
  refine gr_goto 1376 F.1 dL_law_688 (by decide) ?_
  exact kk x pf _ gz_StL.rf F (hu.le (by omega)) (by rw [gz_sCpR, gz_sCpC, gz_sRpR]; exact hRR)
theorem gq_case_18 (hl9 : l.stackTraces = false) (F : gq_LF x pf l b L xs) (hL : L ≤ 3072) (hi : i + 6 ≤ L) (hu : gz_UL x (k + 1)) (hR : gp_R B pf (gz_sC M) (gz_sR M)) (kk : gq_K B x l b L xs i k) : gz_At x 691 (gq_lv x b i) [] M := by
  obtain ⟨cu, tx, bk, us, ks, o, h⟩ := hR
  have hc := hu.c
  obtain ⟨v, Mc, Mr, e1, e2, hRR⟩ := h.q (gp_a20 h.1 (xs (i + 1)) (xs (i + 2)))
  refine gr_aload_n F.1 dL_law_691 1 rfl rfl ?_
  refine gq_arg F hL (q := 1) rfl (by omega) 0 4 rfl rfl dL_law_692 dL_law_693 dL_law_695 dL_law_696 dL_law_697 ?_
  refine gq_arg F hL (q := 2) rfl (by omega) 0 4 rfl rfl dL_law_698 dL_law_699 dL_law_701 dL_law_702 dL_law_703 ?_
  refine gr_callI (kb := 0) [.int (xs (i + 1)), .int (xs (i + 2))] F.1 (gz_liftCI (asF := fun ad => [.ref (ad 0), .int (xs (i + 1)), .int (xs (i + 2))]) (c11_longest e1)) rfl wm_RL_109 rfl (F.1.kd gk_L0).1 ((F.1.kd gk_L0).2 _ _ _ _) rfl (by decide) (by decide) rfl (Nat.le_of_ble_eq_true rfl) hc dL_law_704 ?_
  refine gr_pop F.1 dL_law_707 rfl ?_
  refine gr_aload_n F.1 dL_law_708 2 rfl rfl ?_
  refine gq_arg F hL (q := 1) rfl (by omega) 0 4 rfl rfl dL_law_709 dL_law_710 dL_law_712 dL_law_713 dL_law_714 ?_
  refine gq_arg F hL (q := 2) rfl (by omega) 0 4 rfl rfl dL_law_715 dL_law_716 dL_law_718 dL_law_719 dL_law_720 ?_
  have e2b : f12_longest (xs (i + 1)) (xs (i + 2)) (gz_sR (gz_pC M Mc)) = some (v, Mr) := by rw [gz_sRpC]; exact e2
  refine gr_callI (kb := 1) [.int (xs (i + 1)), .int (xs (i + 2))] F.1 (gz_liftRI (asF := fun ad => [.ref (ad 0), .int (xs (i + 1)), .int (xs (i + 2))]) (c12_longest e2b)) rfl wm_RL_112 rfl (F.1.kd gk_L1).1 ((F.1.kd gk_L1).2 _ _ _ _) rfl (by decide) (by decide) rfl (Nat.le_of_ble_eq_true rfl) hc dL_law_721 ?_
  refine gr_pop F.1 dL_law_724 rfl ?_
  refine gr_goto 1376 F.1 dL_law_725 (by decide) ?_
  exact kk x pf _ gz_StL.rf F (hu.le (by omega)) (by rw [gz_sCpR, gz_sCpC, gz_sRpR]; exact hRR)
theorem gq_case_19 (hl9 : l.stackTraces = false) (F : gq_LF x pf l b L xs) (hL : L ≤ 3072) (hi : i + 6 ≤ L) (hu : gz_UL x (k + 1)) (hR : gp_R B pf (gz_sC M) (gz_sR M)) (kk : gq_K B x l b L xs i k) : gz_At x 728 (gq_lv x b i) [] M := by
  obtain ⟨cu, tx, bk, us, ks, o, h⟩ := hR
  have hc := hu.c
  obtain ⟨v, Mc, Mr, e1, e2, hRR⟩ := h.q (gp_a21 h.1 (xs (i + 1)) (xs (i + 2)))
  refine gr_aload_n F.1 dL_law_728 1 rfl rfl ?_
  refine gq_arg F hL (q := 1) rfl (by omega) 0 4 rfl rfl dL_law_729 dL_law_730 dL_law_732 dL_law_733 dL_law_734 ?_
  refine gq_arg F hL (q := 2) rfl (by omega) 0 4 rfl rfl dL_law_735 dL_law_736 dL_law_738 dL_law_739 dL_law_740 ?_
  refine gr_callI (kb := 0) [.int (xs (i + 1)), .int (xs (i + 2))] F.1 (gz_liftCI (asF := fun ad => [.ref (ad 0), .int (xs (i + 1)), .int (xs (i + 2))]) (c11_matches e1)) rfl wm_RL_113 rfl (F.1.kd gk_L0).1 ((F.1.kd gk_L0).2 _ _ _ _) rfl (by decide) (by decide) rfl (Nat.le_of_ble_eq_true rfl) hc dL_law_741 ?_
  refine gr_pop F.1 dL_law_744 rfl ?_
  refine gr_aload_n F.1 dL_law_745 2 rfl rfl ?_
  refine gq_arg F hL (q := 1) rfl (by omega) 0 4 rfl rfl dL_law_746 dL_law_747 dL_law_749 dL_law_750 dL_law_751 ?_
  refine gq_arg F hL (q := 2) rfl (by omega) 0 4 rfl rfl dL_law_752 dL_law_753 dL_law_755 dL_law_756 dL_law_757 ?_
  have e2b : f12_matches (xs (i + 1)) (xs (i + 2)) (gz_sR (gz_pC M Mc)) = some (v, Mr) := by rw [gz_sRpC]; exact e2
  refine gr_callI (kb := 1) [.int (xs (i + 1)), .int (xs (i + 2))] F.1 (gz_liftRI (asF := fun ad => [.ref (ad 0), .int (xs (i + 1)), .int (xs (i + 2))]) (c12_matches e2b)) rfl wm_RL_116 rfl (F.1.kd gk_L1).1 ((F.1.kd gk_L1).2 _ _ _ _) rfl (by decide) (by decide) rfl (Nat.le_of_ble_eq_true rfl) hc dL_law_758 ?_
  refine gr_pop F.1 dL_law_761 rfl ?_
  refine gr_goto 1376 F.1 dL_law_762 (by decide) ?_
  exact kk x pf _ gz_StL.rf F (hu.le (by omega)) (by rw [gz_sCpR, gz_sCpC, gz_sRpR]; exact hRR)
theorem gq_case_20 (hl9 : l.stackTraces = false) (F : gq_LF x pf l b L xs) (hL : L ≤ 3072) (hi : i + 6 ≤ L) (hu : gz_UL x (k + 1)) (hR : gp_R B pf (gz_sC M) (gz_sR M)) (kk : gq_K B x l b L xs i k) : gz_At x 765 (gq_lv x b i) [] M := by
  obtain ⟨cu, tx, bk, us, ks, o, h⟩ := hR
  have hc := hu.c
  obtain ⟨v, Mc, Mr, e1, e2, hRR⟩ := h.q (gp_a22 h.1 (xs (i + 1)) (xs (i + 2)) (xs (i + 3)))
  refine gr_aload_n F.1 dL_law_765 1 rfl rfl ?_
  refine gq_arg F hL (q := 1) rfl (by omega) 0 4 rfl rfl dL_law_766 dL_law_767 dL_law_769 dL_law_770 dL_law_771 ?_
  refine gq_arg F hL (q := 2) rfl (by omega) 0 4 rfl rfl dL_law_772 dL_law_773 dL_law_775 dL_law_776 dL_law_777 ?_
  refine gq_arg F hL (q := 3) rfl (by omega) 0 4 rfl rfl dL_law_778 dL_law_779 dL_law_781 dL_law_782 dL_law_783 ?_
  refine gr_callI (kb := 0) [.int (xs (i + 1)), .int (xs (i + 2)), .int (xs (i + 3))] F.1 (gz_liftCI (asF := fun ad => [.ref (ad 0), .int (xs (i + 1)), .int (xs (i + 2)), .int (xs (i + 3))]) (c11_stands e1)) rfl wm_RL_117 rfl (F.1.kd gk_L0).1 ((F.1.kd gk_L0).2 _ _ _ _) rfl (by decide) (by decide) rfl (Nat.le_of_ble_eq_true rfl) hc dL_law_784 ?_
  refine gr_pop F.1 dL_law_787 rfl ?_
  refine gr_aload_n F.1 dL_law_788 2 rfl rfl ?_
  refine gq_arg F hL (q := 1) rfl (by omega) 0 4 rfl rfl dL_law_789 dL_law_790 dL_law_792 dL_law_793 dL_law_794 ?_
  refine gq_arg F hL (q := 2) rfl (by omega) 0 4 rfl rfl dL_law_795 dL_law_796 dL_law_798 dL_law_799 dL_law_800 ?_
  refine gq_arg F hL (q := 3) rfl (by omega) 0 4 rfl rfl dL_law_801 dL_law_802 dL_law_804 dL_law_805 dL_law_806 ?_
  have e2b : f12_stands (xs (i + 1)) (xs (i + 2)) (xs (i + 3)) (gz_sR (gz_pC M Mc)) = some (v, Mr) := by rw [gz_sRpC]; exact e2
  refine gr_callI (kb := 1) [.int (xs (i + 1)), .int (xs (i + 2)), .int (xs (i + 3))] F.1 (gz_liftRI (asF := fun ad => [.ref (ad 0), .int (xs (i + 1)), .int (xs (i + 2)), .int (xs (i + 3))]) (c12_stands e2b)) rfl wm_RL_121 rfl (F.1.kd gk_L1).1 ((F.1.kd gk_L1).2 _ _ _ _) rfl (by decide) (by decide) rfl (Nat.le_of_ble_eq_true rfl) hc dL_law_807 ?_
  refine gr_pop F.1 dL_law_810 rfl ?_
  refine gr_goto 1376 F.1 dL_law_811 (by decide) ?_
  exact kk x pf _ gz_StL.rf F (hu.le (by omega)) (by rw [gz_sCpR, gz_sCpC, gz_sRpR]; exact hRR)
theorem gq_case_21 (hl9 : l.stackTraces = false) (F : gq_LF x pf l b L xs) (hL : L ≤ 3072) (hi : i + 6 ≤ L) (hu : gz_UL x (k + 1)) (hR : gp_R B pf (gz_sC M) (gz_sR M)) (kk : gq_K B x l b L xs i k) : gz_At x 814 (gq_lv x b i) [] M := by
  obtain ⟨cu, tx, bk, us, ks, o, h⟩ := hR
  have hc := hu.c
  obtain ⟨v, Mc, Mr, e1, e2, hRR⟩ := h.q (gp_a23 h.1 (xs (i + 1)))
  refine gr_aload_n F.1 dL_law_814 1 rfl rfl ?_
  refine gq_arg F hL (q := 1) rfl (by omega) 0 4 rfl rfl dL_law_815 dL_law_816 dL_law_818 dL_law_819 dL_law_820 ?_
  refine gr_callI (kb := 0) [.int (xs (i + 1))] F.1 (gz_liftCI (asF := fun ad => [.ref (ad 0), .int (xs (i + 1))]) (c11_states e1)) rfl wm_RL_122 rfl (F.1.kd gk_L0).1 ((F.1.kd gk_L0).2 _ _ _ _) rfl (by decide) (by decide) rfl (Nat.le_of_ble_eq_true rfl) hc dL_law_821 ?_
  refine gr_pop F.1 dL_law_824 rfl ?_
  refine gr_aload_n F.1 dL_law_825 2 rfl rfl ?_
  refine gq_arg F hL (q := 1) rfl (by omega) 0 4 rfl rfl dL_law_826 dL_law_827 dL_law_829 dL_law_830 dL_law_831 ?_
  have e2b : f12_states (xs (i + 1)) (gz_sR (gz_pC M Mc)) = some (v, Mr) := by rw [gz_sRpC]; exact e2
  refine gr_callI (kb := 1) [.int (xs (i + 1))] F.1 (gz_liftRI (asF := fun ad => [.ref (ad 0), .int (xs (i + 1))]) (c12_states e2b)) rfl wm_RL_125 rfl (F.1.kd gk_L1).1 ((F.1.kd gk_L1).2 _ _ _ _) rfl (by decide) (by decide) rfl (Nat.le_of_ble_eq_true rfl) hc dL_law_832 ?_
  refine gr_pop F.1 dL_law_835 rfl ?_
  refine gr_goto 1376 F.1 dL_law_836 (by decide) ?_
  exact kk x pf _ gz_StL.rf F (hu.le (by omega)) (by rw [gz_sCpR, gz_sCpC, gz_sRpR]; exact hRR)
theorem gq_case_22 (hl9 : l.stackTraces = false) (hbnd : B → ∀ z, gp_okB z → gp_bnd (gp_tab z.1)) (F : gq_LF x pf l b L xs) (hL : L ≤ 3072) (hi : i + 6 ≤ L) (hu : gz_UL x (k + 1)) (hR : gp_R B pf (gz_sC M) (gz_sR M)) (kk : gq_K B x l b L xs i k) : gz_At x 839 (gq_lv x b i) [] M := by
  obtain ⟨cu, tx, bk, us, ks, o, h⟩ := hR
  have hc := hu.c
  obtain ⟨v, Mc, Mr, e1, e2, hRR⟩ := h.q (gp_a24 h.1 (fun g => hbnd g bk h.2.1) (xs (i + 1)))
  refine gr_aload_n F.1 dL_law_839 1 rfl rfl ?_
  refine gq_arg F hL (q := 1) rfl (by omega) 0 4 rfl rfl dL_law_840 dL_law_841 dL_law_843 dL_law_844 dL_law_845 ?_
  refine gr_callI (kb := 0) [.int (xs (i + 1))] F.1 (gz_liftCI (asF := fun ad => [.ref (ad 0), .int (xs (i + 1))]) (c11_shortest e1)) rfl wm_RL_126 rfl (F.1.kd gk_L0).1 ((F.1.kd gk_L0).2 _ _ _ _) rfl (by decide) (by decide) rfl (Nat.le_of_ble_eq_true rfl) hc dL_law_846 ?_
  refine gr_pop F.1 dL_law_849 rfl ?_
  refine gr_aload_n F.1 dL_law_850 2 rfl rfl ?_
  refine gq_arg F hL (q := 1) rfl (by omega) 0 4 rfl rfl dL_law_851 dL_law_852 dL_law_854 dL_law_855 dL_law_856 ?_
  have e2b : f12_shortest (xs (i + 1)) (gz_sR (gz_pC M Mc)) = some (v, Mr) := by rw [gz_sRpC]; exact e2
  refine gr_callI (kb := 1) [.int (xs (i + 1))] F.1 (gz_liftRI (asF := fun ad => [.ref (ad 0), .int (xs (i + 1))]) (c12_shortest e2b)) rfl wm_RL_129 rfl (F.1.kd gk_L1).1 ((F.1.kd gk_L1).2 _ _ _ _) rfl (by decide) (by decide) rfl (Nat.le_of_ble_eq_true rfl) hc dL_law_857 ?_
  refine gr_pop F.1 dL_law_860 rfl ?_
  refine gr_goto 1376 F.1 dL_law_861 (by decide) ?_
  exact kk x pf _ gz_StL.rf F (hu.le (by omega)) (by rw [gz_sCpR, gz_sCpC, gz_sRpR]; exact hRR)
theorem gq_case_23 (hl9 : l.stackTraces = false) (F : gq_LF x pf l b L xs) (hL : L ≤ 3072) (hi : i + 6 ≤ L) (hu : gz_UL x (k + 1)) (hR : gp_R B pf (gz_sC M) (gz_sR M)) (kk : gq_K B x l b L xs i k) : gz_At x 864 (gq_lv x b i) [] M := by
  obtain ⟨cu, tx, bk, us, ks, o, h⟩ := hR
  have hc := hu.c
  obtain ⟨v, Mc, Mr, e1, e2, hRR⟩ := h.q (gp_a25 h.1 )
  refine gr_aload_n F.1 dL_law_864 1 rfl rfl ?_
  refine gr_callI (kb := 0) [] F.1 (gz_liftCI (asF := fun ad => [.ref (ad 0)]) (c11_idle e1)) rfl wm_RL_130 rfl (F.1.kd gk_L0).1 ((F.1.kd gk_L0).2 _ _ _ _) rfl (by decide) (by decide) rfl (Nat.le_of_ble_eq_true rfl) hc dL_law_865 ?_
  refine gr_pop F.1 dL_law_868 rfl ?_
  refine gr_aload_n F.1 dL_law_869 2 rfl rfl ?_
  have e2b : f12_idle  (gz_sR (gz_pC M Mc)) = some (v, Mr) := by rw [gz_sRpC]; exact e2
  refine gr_callI (kb := 1) [] F.1 (gz_liftRI (asF := fun ad => [.ref (ad 0)]) (c12_idle e2b)) rfl wm_RL_133 rfl (F.1.kd gk_L1).1 ((F.1.kd gk_L1).2 _ _ _ _) rfl (by decide) (by decide) rfl (Nat.le_of_ble_eq_true rfl) hc dL_law_870 ?_
  refine gr_pop F.1 dL_law_873 rfl ?_
  refine gr_goto 1376 F.1 dL_law_874 (by decide) ?_
  exact kk x pf _ gz_StL.rf F (hu.le (by omega)) (by rw [gz_sCpR, gz_sCpC, gz_sRpR]; exact hRR)
theorem gq_case_24 (hl9 : l.stackTraces = false) (hbnd : B → ∀ z, gp_okB z → gp_bnd (gp_tab z.1)) (F : gq_LF x pf l b L xs) (hL : L ≤ 3072) (hi : i + 6 ≤ L) (hu : gz_UL x (k + 1)) (hR : gp_R B pf (gz_sC M) (gz_sR M)) (kk : gq_K B x l b L xs i k) : gz_At x 877 (gq_lv x b i) [] M := by
  obtain ⟨cu, tx, bk, us, ks, o, h⟩ := hR
  have hc := hu.c
  obtain ⟨v, Mc, Mr, e1, e2, hRR⟩ := h.q (gp_a26 h.1 (fun g => hbnd g bk h.2.1) (xs (i + 1)) (xs (i + 2)))
  refine gr_aload_n F.1 dL_law_877 1 rfl rfl ?_
  refine gq_arg F hL (q := 1) rfl (by omega) 0 4 rfl rfl dL_law_878 dL_law_879 dL_law_881 dL_law_882 dL_law_883 ?_
  refine gq_arg F hL (q := 2) rfl (by omega) 0 4 rfl rfl dL_law_884 dL_law_885 dL_law_887 dL_law_888 dL_law_889 ?_
  refine gr_callI (kb := 0) [.int (xs (i + 1)), .int (xs (i + 2))] F.1 (gz_liftCI (asF := fun ad => [.ref (ad 0), .int (xs (i + 1)), .int (xs (i + 2))]) (c11_overlap e1)) rfl wm_RL_134 rfl (F.1.kd gk_L0).1 ((F.1.kd gk_L0).2 _ _ _ _) rfl (by decide) (by decide) rfl (Nat.le_of_ble_eq_true rfl) hc dL_law_890 ?_
  refine gr_pop F.1 dL_law_893 rfl ?_
  refine gr_aload_n F.1 dL_law_894 2 rfl rfl ?_
  refine gq_arg F hL (q := 1) rfl (by omega) 0 4 rfl rfl dL_law_895 dL_law_896 dL_law_898 dL_law_899 dL_law_900 ?_
  refine gq_arg F hL (q := 2) rfl (by omega) 0 4 rfl rfl dL_law_901 dL_law_902 dL_law_904 dL_law_905 dL_law_906 ?_
  have e2b : f12_overlap (xs (i + 1)) (xs (i + 2)) (gz_sR (gz_pC M Mc)) = some (v, Mr) := by rw [gz_sRpC]; exact e2
  refine gr_callI (kb := 1) [.int (xs (i + 1)), .int (xs (i + 2))] F.1 (gz_liftRI (asF := fun ad => [.ref (ad 0), .int (xs (i + 1)), .int (xs (i + 2))]) (c12_overlap e2b)) rfl wm_RL_137 rfl (F.1.kd gk_L1).1 ((F.1.kd gk_L1).2 _ _ _ _) rfl (by decide) (by decide) rfl (Nat.le_of_ble_eq_true rfl) hc dL_law_907 ?_
  refine gr_pop F.1 dL_law_910 rfl ?_
  refine gr_goto 1376 F.1 dL_law_911 (by decide) ?_
  exact kk x pf _ gz_StL.rf F (hu.le (by omega)) (by rw [gz_sCpR, gz_sCpC, gz_sRpR]; exact hRR)
theorem gq_case_25 (hl9 : l.stackTraces = false) (F : gq_LF x pf l b L xs) (hL : L ≤ 3072) (hi : i + 6 ≤ L) (hu : gz_UL x (k + 1)) (hR : gp_R B pf (gz_sC M) (gz_sR M)) (kk : gq_K B x l b L xs i k) : gz_At x 914 (gq_lv x b i) [] M := by
  obtain ⟨cu, tx, bk, us, ks, o, h⟩ := hR
  have hc := hu.c
  obtain ⟨v, Mc, Mr, e1, e2, hRR⟩ := h.q (gp_a27 h.1 (xs (i + 1)) (xs (i + 2)))
  refine gr_aload_n F.1 dL_law_914 1 rfl rfl ?_
  refine gq_arg F hL (q := 1) rfl (by omega) 0 4 rfl rfl dL_law_915 dL_law_916 dL_law_918 dL_law_919 dL_law_920 ?_
  refine gq_arg F hL (q := 2) rfl (by omega) 0 4 rfl rfl dL_law_921 dL_law_922 dL_law_924 dL_law_925 dL_law_926 ?_
  refine gr_callI (kb := 0) [.int (xs (i + 1)), .int (xs (i + 2))] F.1 (gz_liftCI (asF := fun ad => [.ref (ad 0), .int (xs (i + 1)), .int (xs (i + 2))]) (c11_ways e1)) rfl wm_RL_138 rfl (F.1.kd gk_L0).1 ((F.1.kd gk_L0).2 _ _ _ _) rfl (by decide) (by decide) rfl (Nat.le_of_ble_eq_true rfl) hc dL_law_927 ?_
  refine gr_pop F.1 dL_law_930 rfl ?_
  refine gr_aload_n F.1 dL_law_931 2 rfl rfl ?_
  refine gq_arg F hL (q := 1) rfl (by omega) 0 4 rfl rfl dL_law_932 dL_law_933 dL_law_935 dL_law_936 dL_law_937 ?_
  refine gq_arg F hL (q := 2) rfl (by omega) 0 4 rfl rfl dL_law_938 dL_law_939 dL_law_941 dL_law_942 dL_law_943 ?_
  have e2b : f12_ways (xs (i + 1)) (xs (i + 2)) (gz_sR (gz_pC M Mc)) = some (v, Mr) := by rw [gz_sRpC]; exact e2
  refine gr_callI (kb := 1) [.int (xs (i + 1)), .int (xs (i + 2))] F.1 (gz_liftRI (asF := fun ad => [.ref (ad 0), .int (xs (i + 1)), .int (xs (i + 2))]) (c12_ways e2b)) rfl wm_RL_141 rfl (F.1.kd gk_L1).1 ((F.1.kd gk_L1).2 _ _ _ _) rfl (by decide) (by decide) rfl (Nat.le_of_ble_eq_true rfl) hc dL_law_944 ?_
  refine gr_pop F.1 dL_law_947 rfl ?_
  refine gr_goto 1376 F.1 dL_law_948 (by decide) ?_
  exact kk x pf _ gz_StL.rf F (hu.le (by omega)) (by rw [gz_sCpR, gz_sCpC, gz_sRpR]; exact hRR)
theorem gq_case_26 (hl9 : l.stackTraces = false) (F : gq_LF x pf l b L xs) (hL : L ≤ 3072) (hi : i + 6 ≤ L) (hu : gz_UL x (k + 1)) (hR : gp_R B pf (gz_sC M) (gz_sR M)) (kk : gq_K B x l b L xs i k) : gz_At x 951 (gq_lv x b i) [] M := by
  obtain ⟨cu, tx, bk, us, ks, o, h⟩ := hR
  have hc := hu.c
  obtain ⟨v, Mc, Mr, e1, e2, hRR⟩ := h.q (gp_a28 h.1 (xs (i + 1)) (xs (i + 2)))
  refine gr_aload_n F.1 dL_law_951 1 rfl rfl ?_
  refine gq_arg F hL (q := 1) rfl (by omega) 0 4 rfl rfl dL_law_952 dL_law_953 dL_law_955 dL_law_956 dL_law_957 ?_
  refine gq_arg F hL (q := 2) rfl (by omega) 0 4 rfl rfl dL_law_958 dL_law_959 dL_law_961 dL_law_962 dL_law_963 ?_
  refine gr_callI (kb := 0) [.int (xs (i + 1)), .int (xs (i + 2))] F.1 (gz_liftCI (asF := fun ad => [.ref (ad 0), .int (xs (i + 1)), .int (xs (i + 2))]) (c11_fewest e1)) rfl wm_RL_142 rfl (F.1.kd gk_L0).1 ((F.1.kd gk_L0).2 _ _ _ _) rfl (by decide) (by decide) rfl (Nat.le_of_ble_eq_true rfl) hc dL_law_964 ?_
  refine gr_pop F.1 dL_law_967 rfl ?_
  refine gr_aload_n F.1 dL_law_968 2 rfl rfl ?_
  refine gq_arg F hL (q := 1) rfl (by omega) 0 4 rfl rfl dL_law_969 dL_law_970 dL_law_972 dL_law_973 dL_law_974 ?_
  refine gq_arg F hL (q := 2) rfl (by omega) 0 4 rfl rfl dL_law_975 dL_law_976 dL_law_978 dL_law_979 dL_law_980 ?_
  have e2b : f12_fewest (xs (i + 1)) (xs (i + 2)) (gz_sR (gz_pC M Mc)) = some (v, Mr) := by rw [gz_sRpC]; exact e2
  refine gr_callI (kb := 1) [.int (xs (i + 1)), .int (xs (i + 2))] F.1 (gz_liftRI (asF := fun ad => [.ref (ad 0), .int (xs (i + 1)), .int (xs (i + 2))]) (c12_fewest e2b)) rfl wm_RL_145 rfl (F.1.kd gk_L1).1 ((F.1.kd gk_L1).2 _ _ _ _) rfl (by decide) (by decide) rfl (Nat.le_of_ble_eq_true rfl) hc dL_law_981 ?_
  refine gr_pop F.1 dL_law_984 rfl ?_
  refine gr_goto 1376 F.1 dL_law_985 (by decide) ?_
  exact kk x pf _ gz_StL.rf F (hu.le (by omega)) (by rw [gz_sCpR, gz_sCpC, gz_sRpR]; exact hRR)
theorem gq_case_27 (hl9 : l.stackTraces = false) (F : gq_LF x pf l b L xs) (hL : L ≤ 3072) (hi : i + 6 ≤ L) (hu : gz_UL x (k + 1)) (hR : gp_R B pf (gz_sC M) (gz_sR M)) (kk : gq_K B x l b L xs i k) : gz_At x 988 (gq_lv x b i) [] M := by
  obtain ⟨cu, tx, bk, us, ks, o, h⟩ := hR
  have hc := hu.c
  obtain ⟨v, Mc, Mr, e1, e2, hRR⟩ := h.q (gp_a29 h.1 (xs (i + 1)))
  refine gr_aload_n F.1 dL_law_988 1 rfl rfl ?_
  refine gq_arg F hL (q := 1) rfl (by omega) 0 4 rfl rfl dL_law_989 dL_law_990 dL_law_992 dL_law_993 dL_law_994 ?_
  refine gr_callI (kb := 0) [.int (xs (i + 1))] F.1 (gz_liftCI (asF := fun ad => [.ref (ad 0), .int (xs (i + 1))]) (c11_touched e1)) rfl wm_RL_146 rfl (F.1.kd gk_L0).1 ((F.1.kd gk_L0).2 _ _ _ _) rfl (by decide) (by decide) rfl (Nat.le_of_ble_eq_true rfl) hc dL_law_995 ?_
  refine gr_pop F.1 dL_law_998 rfl ?_
  refine gr_aload_n F.1 dL_law_999 2 rfl rfl ?_
  refine gq_arg F hL (q := 1) rfl (by omega) 0 4 rfl rfl dL_law_1000 dL_law_1001 dL_law_1003 dL_law_1004 dL_law_1005 ?_
  have e2b : f12_touched (xs (i + 1)) (gz_sR (gz_pC M Mc)) = some (v, Mr) := by rw [gz_sRpC]; exact e2
  refine gr_callI (kb := 1) [.int (xs (i + 1))] F.1 (gz_liftRI (asF := fun ad => [.ref (ad 0), .int (xs (i + 1))]) (c12_touched e2b)) rfl wm_RL_149 rfl (F.1.kd gk_L1).1 ((F.1.kd gk_L1).2 _ _ _ _) rfl (by decide) (by decide) rfl (Nat.le_of_ble_eq_true rfl) hc dL_law_1006 ?_
  refine gr_pop F.1 dL_law_1009 rfl ?_
  refine gr_goto 1376 F.1 dL_law_1010 (by decide) ?_
  exact kk x pf _ gz_StL.rf F (hu.le (by omega)) (by rw [gz_sCpR, gz_sCpC, gz_sRpR]; exact hRR)
end
