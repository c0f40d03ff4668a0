section
variable {B : Prop} {x : gz_X} {pf : Nat → Bool} {l : Launch} {b L i k : Nat} {xs : Nat → Int32} {M : gz_M}
theorem gq_case_14 (hl9 : l.stackTraces = false) (F : gq_LF x pf l b L xs) (hL : L ≤ 3072) (hi : i + 6 ≤ L) (hu : gz_UL x (k + 1)) (hR : gp_R B pf (gz_sC M) (gz_sR M)) (kk : gq_K B x l b L xs i k) : gz_At x 671 (gq_lv x b i) [] M := by
  obtain ⟨cu, tx, bk, us, ks, o, h⟩ := hR
  have hc := hu.c
  obtain ⟨v, Mc, Mr, e1, e2, hRR⟩ := h.q (gp_a16 h.1 (xs (i + 1)))
  refine gr_aload_n F.1 dL_law_671 1 rfl rfl ?_
  refine gq_arg F hL (q := 1) rfl (by omega) 0 4 rfl rfl dL_law_672 dL_law_673 dL_law_675 dL_law_676 dL_law_677 ?_
  refine gr_callI (kb := 0) [.int (xs (i + 1))] F.1 (gz_liftCI (asF := fun ad => [.ref (ad 0), .int (xs (i + 1))]) (c11_moded e1)) rfl wm_RL_93 rfl (F.1.kd gk_L0).1 ((F.1.kd gk_L0).2 _ _ _ _) rfl (by decide) (by decide) rfl (Nat.le_of_ble_eq_true rfl) hc dL_law_678 ?_
  refine gr_aload_n F.1 dL_law_681 2 rfl rfl ?_
  refine gq_arg F hL (q := 1) rfl (by omega) 0 4 rfl rfl dL_law_682 dL_law_683 dL_law_685 dL_law_686 dL_law_687 ?_
  have e2b : f12_moded (xs (i + 1)) (gz_sR (gz_pC M Mc)) = some (v, Mr) := by rw [gz_sRpC]; exact e2
  refine gr_callI (kb := 1) [.int (xs (i + 1))] F.1 (gz_liftRI (asF := fun ad => [.ref (ad 0), .int (xs (i + 1))]) (c12_moded e2b)) rfl wm_RL_96 rfl (F.1.kd gk_L1).1 ((F.1.kd gk_L1).2 _ _ _ _) rfl (by decide) (by decide) rfl (Nat.le_of_ble_eq_true rfl) hc dL_law_688 ?_
  refine gr_icmp_eq 1459 F.1 dL_law_691 (by decide) (fun _ => ?_) (fun g => absurd rfl g)
  exact kk x pf _ gz_StL.rf F (hu.le (by omega)) (by rw [gz_sCpR, gz_sCpC, gz_sRpR]; exact hRR)
theorem gq_case_15 (hl9 : l.stackTraces = false) (F : gq_LF x pf l b L xs) (hL : L ≤ 3072) (hi : i + 6 ≤ L) (hu : gz_UL x (k + 1)) (hR : gp_R B pf (gz_sC M) (gz_sR M)) (kk : gq_K B x l b L xs i k) : gz_At x 696 (gq_lv x b i) [] M := by
  obtain ⟨cu, tx, bk, us, ks, o, h⟩ := hR
  have hc := hu.c
  obtain ⟨v, Mc, Mr, e1, e2, hRR⟩ := h.q (gp_a17 h.1 (xs (i + 1)))
  refine gr_aload_n F.1 dL_law_696 1 rfl rfl ?_
  refine gq_arg F hL (q := 1) rfl (by omega) 0 4 rfl rfl dL_law_697 dL_law_698 dL_law_700 dL_law_701 dL_law_702 ?_
  refine gr_callI (kb := 0) [.int (xs (i + 1))] F.1 (gz_liftCI (asF := fun ad => [.ref (ad 0), .int (xs (i + 1))]) (c11_readers e1)) rfl wm_RL_97 rfl (F.1.kd gk_L0).1 ((F.1.kd gk_L0).2 _ _ _ _) rfl (by decide) (by decide) rfl (Nat.le_of_ble_eq_true rfl) hc dL_law_703 ?_
  refine gr_aload_n F.1 dL_law_706 2 rfl rfl ?_
  refine gq_arg F hL (q := 1) rfl (by omega) 0 4 rfl rfl dL_law_707 dL_law_708 dL_law_710 dL_law_711 dL_law_712 ?_
  have e2b : f12_readers (xs (i + 1)) (gz_sR (gz_pC M Mc)) = some (v, Mr) := by rw [gz_sRpC]; exact e2
  refine gr_callI (kb := 1) [.int (xs (i + 1))] F.1 (gz_liftRI (asF := fun ad => [.ref (ad 0), .int (xs (i + 1))]) (c12_readers e2b)) rfl wm_RL_100 rfl (F.1.kd gk_L1).1 ((F.1.kd gk_L1).2 _ _ _ _) rfl (by decide) (by decide) rfl (Nat.le_of_ble_eq_true rfl) hc dL_law_713 ?_
  refine gr_icmp_eq 1459 F.1 dL_law_716 (by decide) (fun _ => ?_) (fun g => absurd rfl g)
  exact kk x pf _ gz_StL.rf F (hu.le (by omega)) (by rw [gz_sCpR, gz_sCpC, gz_sRpR]; exact hRR)
theorem gq_case_16 (hl9 : l.stackTraces = false) (F : gq_LF x pf l b L xs) (hL : L ≤ 3072) (hi : i + 6 ≤ L) (hu : gz_UL x (k + 1)) (hR : gp_R B pf (gz_sC M) (gz_sR M)) (kk : gq_K B x l b L xs i k) : gz_At x 721 (gq_lv x b i) [] M := by
  obtain ⟨cu, tx, bk, us, ks, o, h⟩ := hR
  have hc := hu.c
  obtain ⟨v, Mc, Mr, e1, e2, hRR⟩ := h.q (gp_a18 h.1 )
  refine gr_aload_n F.1 dL_law_721 1 rfl rfl ?_
  refine gr_callI (kb := 0) [] F.1 (gz_liftCI (asF := fun ad => [.ref (ad 0)]) (c11_read e1)) rfl wm_RL_101 rfl (F.1.kd gk_L0).1 ((F.1.kd gk_L0).2 _ _ _ _) rfl (by decide) (by decide) rfl (Nat.le_of_ble_eq_true rfl) hc dL_law_722 ?_
  refine gr_aload_n F.1 dL_law_725 2 rfl rfl ?_
  have e2b : f12_read  (gz_sR (gz_pC M Mc)) = some (v, Mr) := by rw [gz_sRpC]; exact e2
  refine gr_callI (kb := 1) [] F.1 (gz_liftRI (asF := fun ad => [.ref (ad 0)]) (c12_read e2b)) rfl wm_RL_104 rfl (F.1.kd gk_L1).1 ((F.1.kd gk_L1).2 _ _ _ _) rfl (by decide) (by decide) rfl (Nat.le_of_ble_eq_true rfl) hc dL_law_726 ?_
  refine gr_icmp_eq 1459 F.1 dL_law_729 (by decide) (fun _ => ?_) (fun g => absurd rfl g)
  exact kk x pf _ gz_StL.rf F (hu.le (by omega)) (by rw [gz_sCpR, gz_sCpC, gz_sRpR]; exact hRR)
theorem gq_case_17 (hl9 : l.stackTraces = false) (F : gq_LF x pf l b L xs) (hL : L ≤ 3072) (hi : i + 6 ≤ L) (hu : gz_UL x (k + 1)) (hR : gp_R B pf (gz_sC M) (gz_sR M)) (kk : gq_K B x l b L xs i k) : gz_At x 734 (gq_lv x b i) [] M := by
  obtain ⟨cu, tx, bk, us, ks, o, h⟩ := hR
  have hc := hu.c
  obtain ⟨v, Mc, Mr, e1, e2, hRR⟩ := h.q (gp_a19 h.1 )
  refine gr_aload_n F.1 dL_law_734 1 rfl rfl ?_
  refine gr_callI (kb := 0) [] F.1 (gz_liftCI (asF := fun ad => [.ref (ad 0)]) (c11_twice e1)) rfl wm_RL_105 rfl (F.1.kd gk_L0).1 ((F.1.kd gk_L0).2 _ _ _ _) rfl (by decide) (by decide) rfl (Nat.le_of_ble_eq_true rfl) hc dL_law_735 ?_
  refine gr_aload_n F.1 dL_law_738 2 rfl rfl ?_
  have e2b : f12_twice  (gz_sR (gz_pC M Mc)) = some (v, Mr) := by rw [gz_sRpC]; exact e2
  refine gr_callI (kb := 1) [] F.1 (gz_liftRI (asF := fun ad => [.ref (ad 0)]) (c12_twice e2b)) rfl wm_RL_108 rfl (F.1.kd gk_L1).1 ((F.1.kd gk_L1).2 _ _ _ _) rfl (by decide) (by decide) rfl (Nat.le_of_ble_eq_true rfl) hc dL_law_739 ?_
  refine gr_icmp_eq 1459 F.1 dL_law_742 (by decide) (fun _ => ?_) (fun g => absurd rfl g)
  exact kk x pf _ gz_StL.rf F (hu.le (by omega)) (by rw [gz_sCpR, gz_sCpC, gz_sRpR]; exact hRR)
theorem gq_case_18 (hl9 : l.stackTraces = false) (F : gq_LF x pf l b L xs) (hL : L ≤ 3072) (hi : i + 6 ≤ L) (hu : gz_UL x (k + 1)) (hR : gp_R B pf (gz_sC M) (gz_sR M)) (kk : gq_K B x l b L xs i k) : gz_At x 747 (gq_lv x b i) [] M := by
  obtain ⟨cu, tx, bk, us, ks, o, h⟩ := hR
  have hc := hu.c
  obtain ⟨v, Mc, Mr, e1, e2, hRR⟩ := h.q (gp_a20 h.1 (xs (i + 1)) (xs (i + 2)))
  refine gr_aload_n F.1 dL_law_747 1 rfl rfl ?_
  refine gq_arg F hL (q := 1) rfl (by omega) 0 4 rfl rfl dL_law_748 dL_law_749 dL_law_751 dL_law_752 dL_law_753 ?_
  refine gq_arg F hL (q := 2) rfl (by omega) 0 4 rfl rfl dL_law_754 dL_law_755 dL_law_757 dL_law_758 dL_law_759 ?_
  refine gr_callI (kb := 0) [.int (xs (i + 1)), .int (xs (i + 2))] F.1 (gz_liftCI (asF := fun ad => [.ref (ad 0), .int (xs (i + 1)), .int (xs (i + 2))]) (c11_longest e1)) rfl wm_RL_109 rfl (F.1.kd gk_L0).1 ((F.1.kd gk_L0).2 _ _ _ _) rfl (by decide) (by decide) rfl (Nat.le_of_ble_eq_true rfl) hc dL_law_760 ?_
  refine gr_aload_n F.1 dL_law_763 2 rfl rfl ?_
  refine gq_arg F hL (q := 1) rfl (by omega) 0 4 rfl rfl dL_law_764 dL_law_765 dL_law_767 dL_law_768 dL_law_769 ?_
  refine gq_arg F hL (q := 2) rfl (by omega) 0 4 rfl rfl dL_law_770 dL_law_771 dL_law_773 dL_law_774 dL_law_775 ?_
  have e2b : f12_longest (xs (i + 1)) (xs (i + 2)) (gz_sR (gz_pC M Mc)) = some (v, Mr) := by rw [gz_sRpC]; exact e2
  refine gr_callI (kb := 1) [.int (xs (i + 1)), .int (xs (i + 2))] F.1 (gz_liftRI (asF := fun ad => [.ref (ad 0), .int (xs (i + 1)), .int (xs (i + 2))]) (c12_longest e2b)) rfl wm_RL_112 rfl (F.1.kd gk_L1).1 ((F.1.kd gk_L1).2 _ _ _ _) rfl (by decide) (by decide) rfl (Nat.le_of_ble_eq_true rfl) hc dL_law_776 ?_
  refine gr_icmp_eq 1459 F.1 dL_law_779 (by decide) (fun _ => ?_) (fun g => absurd rfl g)
  exact kk x pf _ gz_StL.rf F (hu.le (by omega)) (by rw [gz_sCpR, gz_sCpC, gz_sRpR]; exact hRR)
theorem gq_case_19 (hl9 : l.stackTraces = false) (F : gq_LF x pf l b L xs) (hL : L ≤ 3072) (hi : i + 6 ≤ L) (hu : gz_UL x (k + 1)) (hR : gp_R B pf (gz_sC M) (gz_sR M)) (kk : gq_K B x l b L xs i k) : gz_At x 784 (gq_lv x b i) [] M := by
  obtain ⟨cu, tx, bk, us, ks, o, h⟩ := hR
  have hc := hu.c
  obtain ⟨v, Mc, Mr, e1, e2, hRR⟩ := h.q (gp_a21 h.1 (xs (i + 1)) (xs (i + 2)))
  refine gr_aload_n F.1 dL_law_784 1 rfl rfl ?_
  refine gq_arg F hL (q := 1) rfl (by omega) 0 4 rfl rfl dL_law_785 dL_law_786 dL_law_788 dL_law_789 dL_law_790 ?_
  refine gq_arg F hL (q := 2) rfl (by omega) 0 4 rfl rfl dL_law_791 dL_law_792 dL_law_794 dL_law_795 dL_law_796 ?_
  refine gr_callI (kb := 0) [.int (xs (i + 1)), .int (xs (i + 2))] F.1 (gz_liftCI (asF := fun ad => [.ref (ad 0), .int (xs (i + 1)), .int (xs (i + 2))]) (c11_matches e1)) rfl wm_RL_113 rfl (F.1.kd gk_L0).1 ((F.1.kd gk_L0).2 _ _ _ _) rfl (by decide) (by decide) rfl (Nat.le_of_ble_eq_true rfl) hc dL_law_797 ?_
  refine gr_aload_n F.1 dL_law_800 2 rfl rfl ?_
  refine gq_arg F hL (q := 1) rfl (by omega) 0 4 rfl rfl dL_law_801 dL_law_802 dL_law_804 dL_law_805 dL_law_806 ?_
  refine gq_arg F hL (q := 2) rfl (by omega) 0 4 rfl rfl dL_law_807 dL_law_808 dL_law_810 dL_law_811 dL_law_812 ?_
  have e2b : f12_matches (xs (i + 1)) (xs (i + 2)) (gz_sR (gz_pC M Mc)) = some (v, Mr) := by rw [gz_sRpC]; exact e2
  refine gr_callI (kb := 1) [.int (xs (i + 1)), .int (xs (i + 2))] F.1 (gz_liftRI (asF := fun ad => [.ref (ad 0), .int (xs (i + 1)), .int (xs (i + 2))]) (c12_matches e2b)) rfl wm_RL_116 rfl (F.1.kd gk_L1).1 ((F.1.kd gk_L1).2 _ _ _ _) rfl (by decide) (by decide) rfl (Nat.le_of_ble_eq_true rfl) hc dL_law_813 ?_
  refine gr_icmp_eq 1459 F.1 dL_law_816 (by decide) (fun _ => ?_) (fun g => absurd rfl g)
  exact kk x pf _ gz_StL.rf F (hu.le (by omega)) (by rw [gz_sCpR, gz_sCpC, gz_sRpR]; exact hRR)
theorem gq_case_20 (hl9 : l.stackTraces = false) (F : gq_LF x pf l b L xs) (hL : L ≤ 3072) (hi : i + 6 ≤ L) (hu : gz_UL x (k + 1)) (hR : gp_R B pf (gz_sC M) (gz_sR M)) (kk : gq_K B x l b L xs i k) : gz_At x 821 (gq_lv x b i) [] M := by
  obtain ⟨cu, tx, bk, us, ks, o, h⟩ := hR
  have hc := hu.c
  obtain ⟨v, Mc, Mr, e1, e2, hRR⟩ := h.q (gp_a22 h.1 (xs (i + 1)) (xs (i + 2)) (xs (i + 3)))
  refine gr_aload_n F.1 dL_law_821 1 rfl rfl ?_
  refine gq_arg F hL (q := 1) rfl (by omega) 0 4 rfl rfl dL_law_822 dL_law_823 dL_law_825 dL_law_826 dL_law_827 ?_
  refine gq_arg F hL (q := 2) rfl (by omega) 0 4 rfl rfl dL_law_828 dL_law_829 dL_law_831 dL_law_832 dL_law_833 ?_
  refine gq_arg F hL (q := 3) rfl (by omega) 0 4 rfl rfl dL_law_834 dL_law_835 dL_law_837 dL_law_838 dL_law_839 ?_
  refine gr_callI (kb := 0) [.int (xs (i + 1)), .int (xs (i + 2)), .int (xs (i + 3))] F.1 (gz_liftCI (asF := fun ad => [.ref (ad 0), .int (xs (i + 1)), .int (xs (i + 2)), .int (xs (i + 3))]) (c11_stands e1)) rfl wm_RL_117 rfl (F.1.kd gk_L0).1 ((F.1.kd gk_L0).2 _ _ _ _) rfl (by decide) (by decide) rfl (Nat.le_of_ble_eq_true rfl) hc dL_law_840 ?_
  refine gr_aload_n F.1 dL_law_843 2 rfl rfl ?_
  refine gq_arg F hL (q := 1) rfl (by omega) 0 4 rfl rfl dL_law_844 dL_law_845 dL_law_847 dL_law_848 dL_law_849 ?_
  refine gq_arg F hL (q := 2) rfl (by omega) 0 4 rfl rfl dL_law_850 dL_law_851 dL_law_853 dL_law_854 dL_law_855 ?_
  refine gq_arg F hL (q := 3) rfl (by omega) 0 4 rfl rfl dL_law_856 dL_law_857 dL_law_859 dL_law_860 dL_law_861 ?_
  have e2b : f12_stands (xs (i + 1)) (xs (i + 2)) (xs (i + 3)) (gz_sR (gz_pC M Mc)) = some (v, Mr) := by rw [gz_sRpC]; exact e2
  refine gr_callI (kb := 1) [.int (xs (i + 1)), .int (xs (i + 2)), .int (xs (i + 3))] F.1 (gz_liftRI (asF := fun ad => [.ref (ad 0), .int (xs (i + 1)), .int (xs (i + 2)), .int (xs (i + 3))]) (c12_stands e2b)) rfl wm_RL_121 rfl (F.1.kd gk_L1).1 ((F.1.kd gk_L1).2 _ _ _ _) rfl (by decide) (by decide) rfl (Nat.le_of_ble_eq_true rfl) hc dL_law_862 ?_
  refine gr_icmp_eq 1459 F.1 dL_law_865 (by decide) (fun _ => ?_) (fun g => absurd rfl g)
  exact kk x pf _ gz_StL.rf F (hu.le (by omega)) (by rw [gz_sCpR, gz_sCpC, gz_sRpR]; exact hRR)
theorem gq_case_21 (hl9 : l.stackTraces = false) (F : gq_LF x pf l b L xs) (hL : L ≤ 3072) (hi : i + 6 ≤ L) (hu : gz_UL x (k + 1)) (hR : gp_R B pf (gz_sC M) (gz_sR M)) (kk : gq_K B x l b L xs i k) : gz_At x 870 (gq_lv x b i) [] M := by
  obtain ⟨cu, tx, bk, us, ks, o, h⟩ := hR
  have hc := hu.c
  obtain ⟨v, Mc, Mr, e1, e2, hRR⟩ := h.q (gp_a23 h.1 (xs (i + 1)))
  refine gr_aload_n F.1 dL_law_870 1 rfl rfl ?_
  refine gq_arg F hL (q := 1) rfl (by omega) 0 4 rfl rfl dL_law_871 dL_law_872 dL_law_874 dL_law_875 dL_law_876 ?_
  refine gr_callI (kb := 0) [.int (xs (i + 1))] F.1 (gz_liftCI (asF := fun ad => [.ref (ad 0), .int (xs (i + 1))]) (c11_states e1)) rfl wm_RL_122 rfl (F.1.kd gk_L0).1 ((F.1.kd gk_L0).2 _ _ _ _) rfl (by decide) (by decide) rfl (Nat.le_of_ble_eq_true rfl) hc dL_law_877 ?_
  refine gr_aload_n F.1 dL_law_880 2 rfl rfl ?_
  refine gq_arg F hL (q := 1) rfl (by omega) 0 4 rfl rfl dL_law_881 dL_law_882 dL_law_884 dL_law_885 dL_law_886 ?_
  have e2b : f12_states (xs (i + 1)) (gz_sR (gz_pC M Mc)) = some (v, Mr) := by rw [gz_sRpC]; exact e2
  refine gr_callI (kb := 1) [.int (xs (i + 1))] F.1 (gz_liftRI (asF := fun ad => [.ref (ad 0), .int (xs (i + 1))]) (c12_states e2b)) rfl wm_RL_125 rfl (F.1.kd gk_L1).1 ((F.1.kd gk_L1).2 _ _ _ _) rfl (by decide) (by decide) rfl (Nat.le_of_ble_eq_true rfl) hc dL_law_887 ?_
  refine gr_icmp_eq 1459 F.1 dL_law_890 (by decide) (fun _ => ?_) (fun g => absurd rfl g)
  exact kk x pf _ gz_StL.rf F (hu.le (by omega)) (by rw [gz_sCpR, gz_sCpC, gz_sRpR]; exact hRR)
theorem gq_case_22 (hl9 : l.stackTraces = false) (hbnd : B → ∀ z, gp_okB z → gp_bnd (gp_tab z.1)) (F : gq_LF x pf l b L xs) (hL : L ≤ 3072) (hi : i + 6 ≤ L) (hu : gz_UL x (k + 1)) (hR : gp_R B pf (gz_sC M) (gz_sR M)) (kk : gq_K B x l b L xs i k) : gz_At x 895 (gq_lv x b i) [] M := by
  obtain ⟨cu, tx, bk, us, ks, o, h⟩ := hR
  have hc := hu.c
  obtain ⟨v, Mc, Mr, e1, e2, hRR⟩ := h.q (gp_a24 h.1 (fun g => hbnd g bk h.2.1) (xs (i + 1)))
  refine gr_aload_n F.1 dL_law_895 1 rfl rfl ?_
  refine gq_arg F hL (q := 1) rfl (by omega) 0 4 rfl rfl dL_law_896 dL_law_897 dL_law_899 dL_law_900 dL_law_901 ?_
  refine gr_callI (kb := 0) [.int (xs (i + 1))] F.1 (gz_liftCI (asF := fun ad => [.ref (ad 0), .int (xs (i + 1))]) (c11_shortest e1)) rfl wm_RL_126 rfl (F.1.kd gk_L0).1 ((F.1.kd gk_L0).2 _ _ _ _) rfl (by decide) (by decide) rfl (Nat.le_of_ble_eq_true rfl) hc dL_law_902 ?_
  refine gr_aload_n F.1 dL_law_905 2 rfl rfl ?_
  refine gq_arg F hL (q := 1) rfl (by omega) 0 4 rfl rfl dL_law_906 dL_law_907 dL_law_909 dL_law_910 dL_law_911 ?_
  have e2b : f12_shortest (xs (i + 1)) (gz_sR (gz_pC M Mc)) = some (v, Mr) := by rw [gz_sRpC]; exact e2
  refine gr_callI (kb := 1) [.int (xs (i + 1))] F.1 (gz_liftRI (asF := fun ad => [.ref (ad 0), .int (xs (i + 1))]) (c12_shortest e2b)) rfl wm_RL_129 rfl (F.1.kd gk_L1).1 ((F.1.kd gk_L1).2 _ _ _ _) rfl (by decide) (by decide) rfl (Nat.le_of_ble_eq_true rfl) hc dL_law_912 ?_
  refine gr_icmp_eq 1459 F.1 dL_law_915 (by decide) (fun _ => ?_) (fun g => absurd rfl g)
  exact kk x pf _ gz_StL.rf F (hu.le (by omega)) (by rw [gz_sCpR, gz_sCpC, gz_sRpR]; exact hRR)
theorem gq_case_23 (hl9 : l.stackTraces = false) (F : gq_LF x pf l b L xs) (hL : L ≤ 3072) (hi : i + 6 ≤ L) (hu : gz_UL x (k + 1)) (hR : gp_R B pf (gz_sC M) (gz_sR M)) (kk : gq_K B x l b L xs i k) : gz_At x 920 (gq_lv x b i) [] M := by
  obtain ⟨cu, tx, bk, us, ks, o, h⟩ := hR
  have hc := hu.c
  obtain ⟨v, Mc, Mr, e1, e2, hRR⟩ := h.q (gp_a25 h.1 )
  refine gr_aload_n F.1 dL_law_920 1 rfl rfl ?_
  refine gr_callI (kb := 0) [] F.1 (gz_liftCI (asF := fun ad => [.ref (ad 0)]) (c11_idle e1)) rfl wm_RL_130 rfl (F.1.kd gk_L0).1 ((F.1.kd gk_L0).2 _ _ _ _) rfl (by decide) (by decide) rfl (Nat.le_of_ble_eq_true rfl) hc dL_law_921 ?_
  refine gr_aload_n F.1 dL_law_924 2 rfl rfl ?_
  have e2b : f12_idle  (gz_sR (gz_pC M Mc)) = some (v, Mr) := by rw [gz_sRpC]; exact e2
  refine gr_callI (kb := 1) [] F.1 (gz_liftRI (asF := fun ad => [.ref (ad 0)]) (c12_idle e2b)) rfl wm_RL_133 rfl (F.1.kd gk_L1).1 ((F.1.kd gk_L1).2 _ _ _ _) rfl (by decide) (by decide) rfl (Nat.le_of_ble_eq_true rfl) hc dL_law_925 ?_
  refine gr_icmp_eq 1459 F.1 dL_law_928 (by decide) (fun _ => ?_) (fun g => absurd rfl g)
  exact kk x pf _ gz_StL.rf F (hu.le (by omega)) (by rw [gz_sCpR, gz_sCpC, gz_sRpR]; exact hRR)
theorem gq_case_24 (hl9 : l.stackTraces = false) (hbnd : B → ∀ z, gp_okB z → gp_bnd (gp_tab z.1)) (F : gq_LF x pf l b L xs) (hL : L ≤ 3072) (hi : i + 6 ≤ L) (hu : gz_UL x (k + 1)) (hR : gp_R B pf (gz_sC M) (gz_sR M)) (kk : gq_K B x l b L xs i k) : gz_At x 933 (gq_lv x b i) [] M := by
  obtain ⟨cu, tx, bk, us, ks, o, h⟩ := hR
  have hc := hu.c
  obtain ⟨v, Mc, Mr, e1, e2, hRR⟩ := h.q (gp_a26 h.1 (fun g => hbnd g bk h.2.1) (xs (i + 1)) (xs (i + 2)))
  refine gr_aload_n F.1 dL_law_933 1 rfl rfl ?_
  refine gq_arg F hL (q := 1) rfl (by omega) 0 4 rfl rfl dL_law_934 dL_law_935 dL_law_937 dL_law_938 dL_law_939 ?_
  refine gq_arg F hL (q := 2) rfl (by omega) 0 4 rfl rfl dL_law_940 dL_law_941 dL_law_943 dL_law_944 dL_law_945 ?_
  refine gr_callI (kb := 0) [.int (xs (i + 1)), .int (xs (i + 2))] F.1 (gz_liftCI (asF := fun ad => [.ref (ad 0), .int (xs (i + 1)), .int (xs (i + 2))]) (c11_overlap e1)) rfl wm_RL_134 rfl (F.1.kd gk_L0).1 ((F.1.kd gk_L0).2 _ _ _ _) rfl (by decide) (by decide) rfl (Nat.le_of_ble_eq_true rfl) hc dL_law_946 ?_
  refine gr_aload_n F.1 dL_law_949 2 rfl rfl ?_
  refine gq_arg F hL (q := 1) rfl (by omega) 0 4 rfl rfl dL_law_950 dL_law_951 dL_law_953 dL_law_954 dL_law_955 ?_
  refine gq_arg F hL (q := 2) rfl (by omega) 0 4 rfl rfl dL_law_956 dL_law_957 dL_law_959 dL_law_960 dL_law_961 ?_
  have e2b : f12_overlap (xs (i + 1)) (xs (i + 2)) (gz_sR (gz_pC M Mc)) = some (v, Mr) := by rw [gz_sRpC]; exact e2
  refine gr_callI (kb := 1) [.int (xs (i + 1)), .int (xs (i + 2))] F.1 (gz_liftRI (asF := fun ad => [.ref (ad 0), .int (xs (i + 1)), .int (xs (i + 2))]) (c12_overlap e2b)) rfl wm_RL_137 rfl (F.1.kd gk_L1).1 ((F.1.kd gk_L1).2 _ _ _ _) rfl (by decide) (by decide) rfl (Nat.le_of_ble_eq_true rfl) hc dL_law_962 ?_
  refine gr_icmp_eq 1459 F.1 dL_law_965 (by decide) (fun _ => ?_) (fun g => absurd rfl g)
  exact kk x pf _ gz_StL.rf F (hu.le (by omega)) (by rw [gz_sCpR, gz_sCpC, gz_sRpR]; exact hRR)
theorem gq_case_25 (hl9 : l.stackTraces = false) (F : gq_LF x pf l b L xs) (hL : L ≤ 3072) (hi : i + 6 ≤ L) (hu : gz_UL x (k + 1)) (hR : gp_R B pf (gz_sC M) (gz_sR M)) (kk : gq_K B x l b L xs i k) : gz_At x 970 (gq_lv x b i) [] M := by
  obtain ⟨cu, tx, bk, us, ks, o, h⟩ := hR
  have hc := hu.c
  obtain ⟨v, Mc, Mr, e1, e2, hRR⟩ := h.q (gp_a27 h.1 (xs (i + 1)) (xs (i + 2)))
  refine gr_aload_n F.1 dL_law_970 1 rfl rfl ?_
  refine gq_arg F hL (q := 1) rfl (by omega) 0 4 rfl rfl dL_law_971 dL_law_972 dL_law_974 dL_law_975 dL_law_976 ?_
  refine gq_arg F hL (q := 2) rfl (by omega) 0 4 rfl rfl dL_law_977 dL_law_978 dL_law_980 dL_law_981 dL_law_982 ?_
  refine gr_callI (kb := 0) [.int (xs (i + 1)), .int (xs (i + 2))] F.1 (gz_liftCI (asF := fun ad => [.ref (ad 0), .int (xs (i + 1)), .int (xs (i + 2))]) (c11_ways e1)) rfl wm_RL_138 rfl (F.1.kd gk_L0).1 ((F.1.kd gk_L0).2 _ _ _ _) rfl (by decide) (by decide) rfl (Nat.le_of_ble_eq_true rfl) hc dL_law_983 ?_
  refine gr_aload_n F.1 dL_law_986 2 rfl rfl ?_
  refine gq_arg F hL (q := 1) rfl (by omega) 0 4 rfl rfl dL_law_987 dL_law_988 dL_law_990 dL_law_991 dL_law_992 ?_
  refine gq_arg F hL (q := 2) rfl (by omega) 0 4 rfl rfl dL_law_993 dL_law_994 dL_law_996 dL_law_997 dL_law_998 ?_
  have e2b : f12_ways (xs (i + 1)) (xs (i + 2)) (gz_sR (gz_pC M Mc)) = some (v, Mr) := by rw [gz_sRpC]; exact e2
  refine gr_callI (kb := 1) [.int (xs (i + 1)), .int (xs (i + 2))] F.1 (gz_liftRI (asF := fun ad => [.ref (ad 0), .int (xs (i + 1)), .int (xs (i + 2))]) (c12_ways e2b)) rfl wm_RL_141 rfl (F.1.kd gk_L1).1 ((F.1.kd gk_L1).2 _ _ _ _) rfl (by decide) (by decide) rfl (Nat.le_of_ble_eq_true rfl) hc dL_law_999 ?_
  refine gr_icmp_eq 1459 F.1 dL_law_1002 (by decide) (fun _ => ?_) (fun g => absurd rfl g)
  exact kk x pf _ gz_StL.rf F (hu.le (by omega)) (by rw [gz_sCpR, gz_sCpC, gz_sRpR]; exact hRR)
theorem gq_case_26 (hl9 : l.stackTraces = false) (F : gq_LF x pf l b L xs) (hL : L ≤ 3072) (hi : i + 6 ≤ L) (hu : gz_UL x (k + 1)) (hR : gp_R B pf (gz_sC M) (gz_sR M)) (kk : gq_K B x l b L xs i k) : gz_At x 1007 (gq_lv x b i) [] M := by
  obtain ⟨cu, tx, bk, us, ks, o, h⟩ := hR
  have hc := hu.c
  obtain ⟨v, Mc, Mr, e1, e2, hRR⟩ := h.q (gp_a28 h.1 (xs (i + 1)) (xs (i + 2)))
  refine gr_aload_n F.1 dL_law_1007 1 rfl rfl ?_
  refine gq_arg F hL (q := 1) rfl (by omega) 0 4 rfl rfl dL_law_1008 dL_law_1009 dL_law_1011 dL_law_1012 dL_law_1013 ?_
  refine gq_arg F hL (q := 2) rfl (by omega) 0 4 rfl rfl dL_law_1014 dL_law_1015 dL_law_1017 dL_law_1018 dL_law_1019 ?_
  refine gr_callI (kb := 0) [.int (xs (i + 1)), .int (xs (i + 2))] F.1 (gz_liftCI (asF := fun ad => [.ref (ad 0), .int (xs (i + 1)), .int (xs (i + 2))]) (c11_fewest e1)) rfl wm_RL_142 rfl (F.1.kd gk_L0).1 ((F.1.kd gk_L0).2 _ _ _ _) rfl (by decide) (by decide) rfl (Nat.le_of_ble_eq_true rfl) hc dL_law_1020 ?_
  refine gr_aload_n F.1 dL_law_1023 2 rfl rfl ?_
  refine gq_arg F hL (q := 1) rfl (by omega) 0 4 rfl rfl dL_law_1024 dL_law_1025 dL_law_1027 dL_law_1028 dL_law_1029 ?_
  refine gq_arg F hL (q := 2) rfl (by omega) 0 4 rfl rfl dL_law_1030 dL_law_1031 dL_law_1033 dL_law_1034 dL_law_1035 ?_
  have e2b : f12_fewest (xs (i + 1)) (xs (i + 2)) (gz_sR (gz_pC M Mc)) = some (v, Mr) := by rw [gz_sRpC]; exact e2
  refine gr_callI (kb := 1) [.int (xs (i + 1)), .int (xs (i + 2))] F.1 (gz_liftRI (asF := fun ad => [.ref (ad 0), .int (xs (i + 1)), .int (xs (i + 2))]) (c12_fewest e2b)) rfl wm_RL_145 rfl (F.1.kd gk_L1).1 ((F.1.kd gk_L1).2 _ _ _ _) rfl (by decide) (by decide) rfl (Nat.le_of_ble_eq_true rfl) hc dL_law_1036 ?_
  refine gr_icmp_eq 1459 F.1 dL_law_1039 (by decide) (fun _ => ?_) (fun g => absurd rfl g)
  exact kk x pf _ gz_StL.rf F (hu.le (by omega)) (by rw [gz_sCpR, gz_sCpC, gz_sRpR]; exact hRR)
theorem gq_case_27 (hl9 : l.stackTraces = false) (F : gq_LF x pf l b L xs) (hL : L ≤ 3072) (hi : i + 6 ≤ L) (hu : gz_UL x (k + 1)) (hR : gp_R B pf (gz_sC M) (gz_sR M)) (kk : gq_K B x l b L xs i k) : gz_At x 1044 (gq_lv x b i) [] M := by
  obtain ⟨cu, tx, bk, us, ks, o, h⟩ := hR
  have hc := hu.c
  obtain ⟨v, Mc, Mr, e1, e2, hRR⟩ := h.q (gp_a29 h.1 (xs (i + 1)))
  refine gr_aload_n F.1 dL_law_1044 1 rfl rfl ?_
  refine gq_arg F hL (q := 1) rfl (by omega) 0 4 rfl rfl dL_law_1045 dL_law_1046 dL_law_1048 dL_law_1049 dL_law_1050 ?_
  refine gr_callI (kb := 0) [.int (xs (i + 1))] F.1 (gz_liftCI (asF := fun ad => [.ref (ad 0), .int (xs (i + 1))]) (c11_touched e1)) rfl wm_RL_146 rfl (F.1.kd gk_L0).1 ((F.1.kd gk_L0).2 _ _ _ _) rfl (by decide) (by decide) rfl (Nat.le_of_ble_eq_true rfl) hc dL_law_1051 ?_
  refine gr_aload_n F.1 dL_law_1054 2 rfl rfl ?_
  refine gq_arg F hL (q := 1) rfl (by omega) 0 4 rfl rfl dL_law_1055 dL_law_1056 dL_law_1058 dL_law_1059 dL_law_1060 ?_
  have e2b : f12_touched (xs (i + 1)) (gz_sR (gz_pC M Mc)) = some (v, Mr) := by rw [gz_sRpC]; exact e2
  refine gr_callI (kb := 1) [.int (xs (i + 1))] F.1 (gz_liftRI (asF := fun ad => [.ref (ad 0), .int (xs (i + 1))]) (c12_touched e2b)) rfl wm_RL_149 rfl (F.1.kd gk_L1).1 ((F.1.kd gk_L1).2 _ _ _ _) rfl (by decide) (by decide) rfl (Nat.le_of_ble_eq_true rfl) hc dL_law_1061 ?_
  refine gr_icmp_eq 1459 F.1 dL_law_1064 (by decide) (fun _ => ?_) (fun g => absurd rfl g)
  exact kk x pf _ gz_StL.rf F (hu.le (by omega)) (by rw [gz_sCpR, gz_sCpC, gz_sRpR]; exact hRR)
end
