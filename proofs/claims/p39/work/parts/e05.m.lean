section
section
variable {B : Prop} {x : gz_X} {pf : Nat → Bool} {l : Launch} {b L i k : Nat} {xs : Nat → Int32} {M : gz_M}
theorem gq_case_28 (hl9 : l.stackTraces = false) (F : gq_LF x pf l b L xs) (hL : L ≤ 3072) (hi : i + 6 ≤ L) (hu : gz_UL x (k + 1)) (hR : gp_R B pf (gz_sC M) (gz_sR M)) (kk : gq_K B x l b L xs i k) : gz_At x 985 (gq_lv x b i) [] M := by
  obtain ⟨cu, tx, bk, us, ks, o, h⟩ := hR
  have hc := hu.c
  obtain ⟨v, Mc, Mr, e1, e2, hRR⟩ := h.q (gp_a30 h.1 (xs (i + 1)) (xs (i + 2)) (xs (i + 3)) (xs (i + 4)) (xs (i + 5)))
  refine gr_aload_n F.1 dL_law_985 1 rfl rfl ?_
  refine gq_arg F hL (q := 1) rfl (by omega) 0 4 rfl rfl dL_law_986 dL_law_987 dL_law_989 dL_law_990 dL_law_991 ?_
  refine gq_arg F hL (q := 2) rfl (by omega) 0 4 rfl rfl dL_law_992 dL_law_993 dL_law_995 dL_law_996 dL_law_997 ?_
  refine gq_arg F hL (q := 3) rfl (by omega) 0 4 rfl rfl dL_law_998 dL_law_999 dL_law_1001 dL_law_1002 dL_law_1003 ?_
  refine gq_arg F hL (q := 4) rfl (by omega) 0 4 rfl rfl dL_law_1004 dL_law_1005 dL_law_1007 dL_law_1008 dL_law_1009 ?_
  refine gq_arg F hL (q := 5) rfl (by omega) 0 4 rfl rfl dL_law_1010 dL_law_1011 dL_law_1013 dL_law_1014 dL_law_1015 ?_
  refine gr_callI (kb := 0) [.int (xs (i + 1)), .int (xs (i + 2)), .int (xs (i + 3)), .int (xs (i + 4)), .int (xs (i + 5))] F.1 (gz_liftCI (asF := fun ad => [.ref (ad 0), .int (xs (i + 1)), .int (xs (i + 2)), .int (xs (i + 3)), .int (xs (i + 4)), .int (xs (i + 5))]) (c11_same e1)) rfl wm_RL_147 rfl (F.1.kd gk_L0).1 ((F.1.kd gk_L0).2 _ _ _ _) rfl (by decide) (by decide) rfl (Nat.le_of_ble_eq_true rfl) hc dL_law_1016 ?_
  refine gr_pop F.1 dL_law_1019 rfl ?_
  refine gr_aload_n F.1 dL_law_1020 2 rfl rfl ?_
  refine gq_arg F hL (q := 1) rfl (by omega) 0 4 rfl rfl dL_law_1021 dL_law_1022 dL_law_1024 dL_law_1025 dL_law_1026 ?_
  refine gq_arg F hL (q := 2) rfl (by omega) 0 4 rfl rfl dL_law_1027 dL_law_1028 dL_law_1030 dL_law_1031 dL_law_1032 ?_
  refine gq_arg F hL (q := 3) rfl (by omega) 0 4 rfl rfl dL_law_1033 dL_law_1034 dL_law_1036 dL_law_1037 dL_law_1038 ?_
  refine gq_arg F hL (q := 4) rfl (by omega) 0 4 rfl rfl dL_law_1039 dL_law_1040 dL_law_1042 dL_law_1043 dL_law_1044 ?_
  refine gq_arg F hL (q := 5) rfl (by omega) 0 4 rfl rfl dL_law_1045 dL_law_1046 dL_law_1048 dL_law_1049 dL_law_1050 ?_
  have e2b : f12_same (xs (i + 1)) (xs (i + 2)) (xs (i + 3)) (xs (i + 4)) (xs (i + 5)) (gz_sR (gz_pC M Mc)) = some (v, Mr) := by rw [gz_sRpC]; exact e2
  refine gr_callI (kb := 1) [.int (xs (i + 1)), .int (xs (i + 2)), .int (xs (i + 3)), .int (xs (i + 4)), .int (xs (i + 5))] F.1 (gz_liftRI (asF := fun ad => [.ref (ad 0), .int (xs (i + 1)), .int (xs (i + 2)), .int (xs (i + 3)), .int (xs (i + 4)), .int (xs (i + 5))]) (c12_same e2b)) rfl wm_RL_151 rfl (F.1.kd gk_L1).1 ((F.1.kd gk_L1).2 _ _ _ _) rfl (by decide) (by decide) rfl (Nat.le_of_ble_eq_true rfl) hc dL_law_1051 ?_
  refine gr_pop F.1 dL_law_1054 rfl ?_
  refine gr_goto 1348 F.1 dL_law_1055 (by decide) ?_
  exact kk x pf _ gz_StL.rf F (hu.le (by omega)) (by rw [gz_sCpR, gz_sCpC, gz_sRpR]; exact hRR)
theorem gq_case_29 (hl9 : l.stackTraces = false) (F : gq_LF x pf l b L xs) (hL : L ≤ 3072) (hi : i + 6 ≤ L) (hu : gz_UL x (k + 1)) (hR : gp_R B pf (gz_sC M) (gz_sR M)) (kk : gq_K B x l b L xs i k) : gz_At x 1058 (gq_lv x b i) [] M := by
  obtain ⟨cu, tx, bk, us, ks, o, h⟩ := hR
  have hc := hu.c
  obtain ⟨v, Mc, pf1, Mr, e1, e2, hRR⟩ := gp_a31 h (xs (i + 1)) (xs (i + 2))
  refine gr_aload_n F.1 dL_law_1058 1 rfl rfl ?_
  refine gq_arg F hL (q := 1) rfl (by omega) 0 4 rfl rfl dL_law_1059 dL_law_1060 dL_law_1062 dL_law_1063 dL_law_1064 ?_
  refine gq_arg F hL (q := 2) rfl (by omega) 0 4 rfl rfl dL_law_1065 dL_law_1066 dL_law_1068 dL_law_1069 dL_law_1070 ?_
  refine gr_callAIL (kb := 0) (k := k) [.int (xs (i + 1)), .int (xs (i + 2))] F.1 F.2.2.2.1 hu (gz_liftA (asF := fun ad => [.ref (ad 0), .int (xs (i + 1)), .int (xs (i + 2))]) (ce11_becomes e1)) rfl wm_RL_152 rfl (F.1.kd gk_L0).1 ((F.1.kd gk_L0).2 _ _ _ _) rfl (by decide) (by decide) rfl (Nat.le_of_ble_eq_true rfl) dL_law_1071 (fun x1 hS X1 hu1 => ?_)
  have F1 := F.of hS X1
  have hc1 := hu1.c
  rw [gq_lv_st hS]
  refine gr_pop X1 dL_law_1074 rfl ?_
  refine gr_aload_n X1 dL_law_1075 2 rfl rfl ?_
  refine gq_arg F1 hL (q := 1) rfl (by omega) 0 4 rfl rfl dL_law_1076 dL_law_1077 dL_law_1079 dL_law_1080 dL_law_1081 ?_
  refine gq_arg F1 hL (q := 2) rfl (by omega) 0 4 rfl rfl dL_law_1082 dL_law_1083 dL_law_1085 dL_law_1086 dL_law_1087 ?_
  have e2b : f12_becomes (xs (i + 1)) (xs (i + 2)) (gz_sR (gz_pC M Mc)) = some (v, Mr) := by rw [gz_sRpC]; exact e2
  refine gr_callI (kb := 1) [.int (xs (i + 1)), .int (xs (i + 2))] X1 (gz_liftRI (asF := fun ad => [.ref (ad 0), .int (xs (i + 1)), .int (xs (i + 2))]) (c12_becomes e2b)) rfl wm_RL_155 rfl (X1.kd gk_L1).1 ((X1.kd gk_L1).2 _ _ _ _) rfl (by decide) (by decide) rfl (Nat.le_of_ble_eq_true rfl) hc1 dL_law_1088 ?_
  refine gr_pop X1 dL_law_1091 rfl ?_
  refine gr_goto 1348 X1 dL_law_1092 (by decide) ?_
  exact kk x1 pf1 _ hS F1 hu1 (by rw [gz_sCpR, gz_sCpC, gz_sRpR]; exact hRR)
theorem gq_case_30 (hl9 : l.stackTraces = false) (F : gq_LF x pf l b L xs) (hL : L ≤ 3072) (hi : i + 6 ≤ L) (hu : gz_UL x (k + 1)) (hR : gp_R B pf (gz_sC M) (gz_sR M)) (kk : gq_K B x l b L xs i k) : gz_At x 1095 (gq_lv x b i) [] M := by
  obtain ⟨cu, tx, bk, us, ks, o, h⟩ := hR
  have hc := hu.c
  obtain ⟨v, Mc, pf1, Mr, e1, e2, hRR⟩ := gp_a32 h (xs (i + 1)) (xs (i + 2))
  refine gr_aload_n F.1 dL_law_1095 1 rfl rfl ?_
  refine gq_arg F hL (q := 1) rfl (by omega) 0 4 rfl rfl dL_law_1096 dL_law_1097 dL_law_1099 dL_law_1100 dL_law_1101 ?_
  refine gq_arg F hL (q := 2) rfl (by omega) 0 4 rfl rfl dL_law_1102 dL_law_1103 dL_law_1105 dL_law_1106 dL_law_1107 ?_
  refine gr_callAIL (kb := 0) (k := k) [.int (xs (i + 1)), .int (xs (i + 2))] F.1 F.2.2.2.1 hu (gz_liftA (asF := fun ad => [.ref (ad 0), .int (xs (i + 1)), .int (xs (i + 2))]) (ce11_comes e1)) rfl wm_RL_156 rfl (F.1.kd gk_L0).1 ((F.1.kd gk_L0).2 _ _ _ _) rfl (by decide) (by decide) rfl (Nat.le_of_ble_eq_true rfl) dL_law_1108 (fun x1 hS X1 hu1 => ?_)
  have F1 := F.of hS X1
  have hc1 := hu1.c
  rw [gq_lv_st hS]
  refine gr_pop X1 dL_law_1111 rfl ?_
  refine gr_aload_n X1 dL_law_1112 2 rfl rfl ?_
  refine gq_arg F1 hL (q := 1) rfl (by omega) 0 4 rfl rfl dL_law_1113 dL_law_1114 dL_law_1116 dL_law_1117 dL_law_1118 ?_
  refine gq_arg F1 hL (q := 2) rfl (by omega) 0 4 rfl rfl dL_law_1119 dL_law_1120 dL_law_1122 dL_law_1123 dL_law_1124 ?_
  have e2b : f12_comes (xs (i + 1)) (xs (i + 2)) (gz_sR (gz_pC M Mc)) = some (v, Mr) := by rw [gz_sRpC]; exact e2
  refine gr_callI (kb := 1) [.int (xs (i + 1)), .int (xs (i + 2))] X1 (gz_liftRI (asF := fun ad => [.ref (ad 0), .int (xs (i + 1)), .int (xs (i + 2))]) (c12_comes e2b)) rfl wm_RL_159 rfl (X1.kd gk_L1).1 ((X1.kd gk_L1).2 _ _ _ _) rfl (by decide) (by decide) rfl (Nat.le_of_ble_eq_true rfl) hc1 dL_law_1125 ?_
  refine gr_pop X1 dL_law_1128 rfl ?_
  refine gr_goto 1348 X1 dL_law_1129 (by decide) ?_
  exact kk x1 pf1 _ hS F1 hu1 (by rw [gz_sCpR, gz_sCpC, gz_sRpR]; exact hRR)
theorem gq_case_31 (hl9 : l.stackTraces = false) (F : gq_LF x pf l b L xs) (hL : L ≤ 3072) (hi : i + 6 ≤ L) (hu : gz_UL x (k + 1)) (hR : gp_R B pf (gz_sC M) (gz_sR M)) (kk : gq_K B x l b L xs i k) : gz_At x 1132 (gq_lv x b i) [] M := by
  obtain ⟨cu, tx, bk, us, ks, o, h⟩ := hR
  have hc := hu.c
  obtain ⟨v, Mc, pf1, Mr, e1, e2, hRR⟩ := gp_a33 h (xs (i + 1))
  refine gr_aload_n F.1 dL_law_1132 1 rfl rfl ?_
  refine gq_arg F hL (q := 1) rfl (by omega) 0 4 rfl rfl dL_law_1133 dL_law_1134 dL_law_1136 dL_law_1137 dL_law_1138 ?_
  refine gr_callAIL (kb := 0) (k := k) [.int (xs (i + 1))] F.1 F.2.2.2.1 hu (gz_liftA (asF := fun ad => [.ref (ad 0), .int (xs (i + 1))]) (ce11_goes e1)) rfl wm_RL_160 rfl (F.1.kd gk_L0).1 ((F.1.kd gk_L0).2 _ _ _ _) rfl (by decide) (by decide) rfl (Nat.le_of_ble_eq_true rfl) dL_law_1139 (fun x1 hS X1 hu1 => ?_)
  have F1 := F.of hS X1
  have hc1 := hu1.c
  rw [gq_lv_st hS]
  refine gr_pop X1 dL_law_1142 rfl ?_
  refine gr_aload_n X1 dL_law_1143 2 rfl rfl ?_
  refine gq_arg F1 hL (q := 1) rfl (by omega) 0 4 rfl rfl dL_law_1144 dL_law_1145 dL_law_1147 dL_law_1148 dL_law_1149 ?_
  have e2b : f12_goes (xs (i + 1)) (gz_sR (gz_pC M Mc)) = some (v, Mr) := by rw [gz_sRpC]; exact e2
  refine gr_callI (kb := 1) [.int (xs (i + 1))] X1 (gz_liftRI (asF := fun ad => [.ref (ad 0), .int (xs (i + 1))]) (c12_goes e2b)) rfl wm_RL_163 rfl (X1.kd gk_L1).1 ((X1.kd gk_L1).2 _ _ _ _) rfl (by decide) (by decide) rfl (Nat.le_of_ble_eq_true rfl) hc1 dL_law_1150 ?_
  refine gr_pop X1 dL_law_1153 rfl ?_
  refine gr_goto 1348 X1 dL_law_1154 (by decide) ?_
  exact kk x1 pf1 _ hS F1 hu1 (by rw [gz_sCpR, gz_sCpC, gz_sRpR]; exact hRR)
theorem gq_case_32 (hl9 : l.stackTraces = false) (F : gq_LF x pf l b L xs) (hL : L ≤ 3072) (hi : i + 6 ≤ L) (hu : gz_UL x (k + 1)) (hR : gp_R B pf (gz_sC M) (gz_sR M)) (kk : gq_K B x l b L xs i k) : gz_At x 1157 (gq_lv x b i) [] M := by
  obtain ⟨cu, tx, bk, us, ks, o, h⟩ := hR
  have hc := hu.c
  obtain ⟨v, Mc, Mr, e1, e2, hRR⟩ := h.q (gp_a34 h.1 (xs (i + 1)))
  refine gr_aload_n F.1 dL_law_1157 1 rfl rfl ?_
  refine gq_arg F hL (q := 1) rfl (by omega) 0 4 rfl rfl dL_law_1158 dL_law_1159 dL_law_1161 dL_law_1162 dL_law_1163 ?_
  refine gr_callI (kb := 0) [.int (xs (i + 1))] F.1 (gz_liftCI (asF := fun ad => [.ref (ad 0), .int (xs (i + 1))]) (c11_mends e1)) rfl wm_RL_164 rfl (F.1.kd gk_L0).1 ((F.1.kd gk_L0).2 _ _ _ _) rfl (by decide) (by decide) rfl (Nat.le_of_ble_eq_true rfl) hc dL_law_1164 ?_
  refine gr_pop F.1 dL_law_1167 rfl ?_
  refine gr_aload_n F.1 dL_law_1168 2 rfl rfl ?_
  refine gq_arg F hL (q := 1) rfl (by omega) 0 4 rfl rfl dL_law_1169 dL_law_1170 dL_law_1172 dL_law_1173 dL_law_1174 ?_
  have e2b : f12_mends (xs (i + 1)) (gz_sR (gz_pC M Mc)) = some (v, Mr) := by rw [gz_sRpC]; exact e2
  refine gr_callI (kb := 1) [.int (xs (i + 1))] F.1 (gz_liftRI (asF := fun ad => [.ref (ad 0), .int (xs (i + 1))]) (c12_mends e2b)) rfl wm_RL_167 rfl (F.1.kd gk_L1).1 ((F.1.kd gk_L1).2 _ _ _ _) rfl (by decide) (by decide) rfl (Nat.le_of_ble_eq_true rfl) hc dL_law_1175 ?_
  refine gr_pop F.1 dL_law_1178 rfl ?_
  refine gr_goto 1348 F.1 dL_law_1179 (by decide) ?_
  exact kk x pf _ gz_StL.rf F (hu.le (by omega)) (by rw [gz_sCpR, gz_sCpC, gz_sRpR]; exact hRR)
theorem gq_case_33 (hl9 : l.stackTraces = false) (F : gq_LF x pf l b L xs) (hL : L ≤ 3072) (hi : i + 6 ≤ L) (hu : gz_UL x (k + 1)) (hR : gp_R B pf (gz_sC M) (gz_sR M)) (kk : gq_K B x l b L xs i k) : gz_At x 1182 (gq_lv x b i) [] M := by
  obtain ⟨cu, tx, bk, us, ks, o, h⟩ := hR
  have hc := hu.c
  obtain ⟨v, Mc, pf1, Mr, e1, e2, hRR⟩ := gp_a35 h 
  refine gr_aload_n F.1 dL_law_1182 1 rfl rfl ?_
  refine gr_callAIL (kb := 0) (k := k) [] F.1 F.2.2.2.1 hu (gz_liftA (asF := fun ad => [.ref (ad 0)]) (ce11_day e1)) rfl wm_RL_168 rfl (F.1.kd gk_L0).1 ((F.1.kd gk_L0).2 _ _ _ _) rfl (by decide) (by decide) rfl (Nat.le_of_ble_eq_true rfl) dL_law_1183 (fun x1 hS X1 hu1 => ?_)
  have F1 := F.of hS X1
  have hc1 := hu1.c
  rw [gq_lv_st hS]
  refine gr_pop X1 dL_law_1186 rfl ?_
  refine gr_aload_n X1 dL_law_1187 2 rfl rfl ?_
  have e2b : f12_day  (gz_sR (gz_pC M Mc)) = some (v, Mr) := by rw [gz_sRpC]; exact e2
  refine gr_callI (kb := 1) [] X1 (gz_liftRI (asF := fun ad => [.ref (ad 0)]) (c12_day e2b)) rfl wm_RL_171 rfl (X1.kd gk_L1).1 ((X1.kd gk_L1).2 _ _ _ _) rfl (by decide) (by decide) rfl (Nat.le_of_ble_eq_true rfl) hc1 dL_law_1188 ?_
  refine gr_pop X1 dL_law_1191 rfl ?_
  refine gr_goto 1348 X1 dL_law_1192 (by decide) ?_
  exact kk x1 pf1 _ hS F1 hu1 (by rw [gz_sCpR, gz_sCpC, gz_sRpR]; exact hRR)
theorem gq_case_34 (hl9 : l.stackTraces = false) (F : gq_LF x pf l b L xs) (hL : L ≤ 3072) (hi : i + 6 ≤ L) (hu : gz_UL x (k + 1)) (hR : gp_R B pf (gz_sC M) (gz_sR M)) (kk : gq_K B x l b L xs i k) : gz_At x 1195 (gq_lv x b i) [] M := by
  obtain ⟨cu, tx, bk, us, ks, o, h⟩ := hR
  have hc := hu.c
  obtain ⟨v, Mc, Mr, e1, e2, hRR⟩ := gp_a36 h 
  refine gr_aload_n F.1 dL_law_1195 1 rfl rfl ?_
  refine gr_callI (kb := 0) [] F.1 (gz_liftCI (asF := fun ad => [.ref (ad 0)]) (c11_undo e1)) rfl wm_RL_172 rfl (F.1.kd gk_L0).1 ((F.1.kd gk_L0).2 _ _ _ _) rfl (by decide) (by decide) rfl (Nat.le_of_ble_eq_true rfl) hc dL_law_1196 ?_
  refine gr_pop F.1 dL_law_1199 rfl ?_
  refine gr_aload_n F.1 dL_law_1200 2 rfl rfl ?_
  have e2b : f12_undo pf  (gz_sR (gz_pC M Mc)) = some (v, Mr) := by rw [gz_sRpC]; exact e2
  refine gr_callI (kb := 1) [] F.1 (gz_liftRI (asF := fun ad => [.ref (ad 0)]) (c12_undo e2b)) rfl wm_RL_175 rfl (F.1.kd gk_L1).1 ((F.1.kd gk_L1).2 _ _ _ _) rfl (by decide) (by decide) rfl (Nat.le_of_ble_eq_true rfl) hc dL_law_1201 ?_
  refine gr_pop F.1 dL_law_1204 rfl ?_
  refine gr_goto 1348 F.1 dL_law_1205 (by decide) ?_
  exact kk x pf _ gz_StL.rf F (hu.le (by omega)) (by rw [gz_sCpR, gz_sCpC, gz_sRpR]; exact hRR)
theorem gq_case_35 (hl9 : l.stackTraces = false) (F : gq_LF x pf l b L xs) (hL : L ≤ 3072) (hi : i + 6 ≤ L) (hu : gz_UL x (k + 1)) (hR : gp_R B pf (gz_sC M) (gz_sR M)) (kk : gq_K B x l b L xs i k) : gz_At x 1208 (gq_lv x b i) [] M := by
  obtain ⟨cu, tx, bk, us, ks, o, h⟩ := hR
  have hc := hu.c
  obtain ⟨v, Mc, Mr, e1, e2, hRR⟩ := gp_a37 h (xs (i + 1)) (xs (i + 2))
  refine gr_aload_n F.1 dL_law_1208 1 rfl rfl ?_
  refine gq_arg F hL (q := 1) rfl (by omega) 0 4 rfl rfl dL_law_1209 dL_law_1210 dL_law_1212 dL_law_1213 dL_law_1214 ?_
  refine gq_arg F hL (q := 2) rfl (by omega) 0 4 rfl rfl dL_law_1215 dL_law_1216 dL_law_1218 dL_law_1219 dL_law_1220 ?_
  refine gr_callI (kb := 0) [.int (xs (i + 1)), .int (xs (i + 2))] F.1 (gz_liftCI (asF := fun ad => [.ref (ad 0), .int (xs (i + 1)), .int (xs (i + 2))]) (c11_years e1)) rfl wm_RL_176 rfl (F.1.kd gk_L0).1 ((F.1.kd gk_L0).2 _ _ _ _) rfl (by decide) (by decide) rfl (Nat.le_of_ble_eq_true rfl) hc dL_law_1221 ?_
  refine gr_pop F.1 dL_law_1224 rfl ?_
  refine gr_aload_n F.1 dL_law_1225 2 rfl rfl ?_
  refine gq_arg F hL (q := 1) rfl (by omega) 0 4 rfl rfl dL_law_1226 dL_law_1227 dL_law_1229 dL_law_1230 dL_law_1231 ?_
  refine gq_arg F hL (q := 2) rfl (by omega) 0 4 rfl rfl dL_law_1232 dL_law_1233 dL_law_1235 dL_law_1236 dL_law_1237 ?_
  have e2b : f12_years (xs (i + 1)) (xs (i + 2)) (gz_sR (gz_pC M Mc)) = some (v, Mr) := by rw [gz_sRpC]; exact e2
  refine gr_callI (kb := 1) [.int (xs (i + 1)), .int (xs (i + 2))] F.1 (gz_liftRI (asF := fun ad => [.ref (ad 0), .int (xs (i + 1)), .int (xs (i + 2))]) (c12_years e2b)) rfl wm_RL_179 rfl (F.1.kd gk_L1).1 ((F.1.kd gk_L1).2 _ _ _ _) rfl (by decide) (by decide) rfl (Nat.le_of_ble_eq_true rfl) hc dL_law_1238 ?_
  refine gr_pop F.1 dL_law_1241 rfl ?_
  refine gr_goto 1348 F.1 dL_law_1242 (by decide) ?_
  exact kk x pf _ gz_StL.rf F (hu.le (by omega)) (by rw [gz_sCpR, gz_sCpC, gz_sRpR]; exact hRR)
theorem gq_case_36 (hl9 : l.stackTraces = false) (F : gq_LF x pf l b L xs) (hL : L ≤ 3072) (hi : i + 6 ≤ L) (hu : gz_UL x (k + 1)) (hR : gp_R B pf (gz_sC M) (gz_sR M)) (kk : gq_K B x l b L xs i k) : gz_At x 1245 (gq_lv x b i) [] M := by
  obtain ⟨cu, tx, bk, us, ks, o, h⟩ := hR
  have hc := hu.c
  obtain ⟨v, Mc, pf1, Mr, e1, e2, hRR⟩ := gp_a38 h (xs (i + 1))
  refine gr_aload_n F.1 dL_law_1245 1 rfl rfl ?_
  refine gq_arg F hL (q := 1) rfl (by omega) 0 4 rfl rfl dL_law_1246 dL_law_1247 dL_law_1249 dL_law_1250 dL_law_1251 ?_
  refine gr_callAIL (kb := 0) (k := k) [.int (xs (i + 1))] F.1 F.2.2.2.1 hu (gz_liftA (asF := fun ad => [.ref (ad 0), .int (xs (i + 1))]) (ce11_keep e1)) rfl wm_RL_180 rfl (F.1.kd gk_L0).1 ((F.1.kd gk_L0).2 _ _ _ _) rfl (by decide) (by decide) rfl (Nat.le_of_ble_eq_true rfl) dL_law_1252 (fun x1 hS X1 hu1 => ?_)
  have F1 := F.of hS X1
  have hc1 := hu1.c
  rw [gq_lv_st hS]
  refine gr_pop X1 dL_law_1255 rfl ?_
  refine gr_aload_n X1 dL_law_1256 2 rfl rfl ?_
  refine gq_arg F1 hL (q := 1) rfl (by omega) 0 4 rfl rfl dL_law_1257 dL_law_1258 dL_law_1260 dL_law_1261 dL_law_1262 ?_
  have e2b : f12_keep (xs (i + 1)) (gz_sR (gz_pC M Mc)) = some (v, Mr) := by rw [gz_sRpC]; exact e2
  refine gr_callI (kb := 1) [.int (xs (i + 1))] X1 (gz_liftRI (asF := fun ad => [.ref (ad 0), .int (xs (i + 1))]) (c12_keep e2b)) rfl wm_RL_183 rfl (X1.kd gk_L1).1 ((X1.kd gk_L1).2 _ _ _ _) rfl (by decide) (by decide) rfl (Nat.le_of_ble_eq_true rfl) hc1 dL_law_1263 ?_
  refine gr_pop X1 dL_law_1266 rfl ?_
  refine gr_goto 1348 X1 dL_law_1267 (by decide) ?_
  exact kk x1 pf1 _ hS F1 hu1 (by rw [gz_sCpR, gz_sCpC, gz_sRpR]; exact hRR)
theorem gq_case_37 (hl9 : l.stackTraces = false) (F : gq_LF x pf l b L xs) (hL : L ≤ 3072) (hi : i + 6 ≤ L) (hu : gz_UL x (k + 1)) (hR : gp_R B pf (gz_sC M) (gz_sR M)) (kk : gq_K B x l b L xs i k) : gz_At x 1270 (gq_lv x b i) [] M := by
  obtain ⟨cu, tx, bk, us, ks, o, h⟩ := hR
  have hc := hu.c
  obtain ⟨v, Mc, Mr, e1, e2, hRR⟩ := gp_a39 h (xs (i + 1))
  refine gr_aload_n F.1 dL_law_1270 1 rfl rfl ?_
  refine gq_arg F hL (q := 1) rfl (by omega) 0 4 rfl rfl dL_law_1271 dL_law_1272 dL_law_1274 dL_law_1275 dL_law_1276 ?_
  refine gr_callI (kb := 0) [.int (xs (i + 1))] F.1 (gz_liftCI (asF := fun ad => [.ref (ad 0), .int (xs (i + 1))]) (c11_again e1)) rfl wm_RL_184 rfl (F.1.kd gk_L0).1 ((F.1.kd gk_L0).2 _ _ _ _) rfl (by decide) (by decide) rfl (Nat.le_of_ble_eq_true rfl) hc dL_law_1277 ?_
  refine gr_aload_n F.1 dL_law_1280 2 rfl rfl ?_
  refine gq_arg F hL (q := 1) rfl (by omega) 0 4 rfl rfl dL_law_1281 dL_law_1282 dL_law_1284 dL_law_1285 dL_law_1286 ?_
  have e2b : f12_again (xs (i + 1)) (gz_sR (gz_pC M Mc)) = some (v, Mr) := by rw [gz_sRpC]; exact e2
  refine gr_callI (kb := 1) [.int (xs (i + 1))] F.1 (gz_liftRI (asF := fun ad => [.ref (ad 0), .int (xs (i + 1))]) (c12_again e2b)) rfl wm_RL_187 rfl (F.1.kd gk_L1).1 ((F.1.kd gk_L1).2 _ _ _ _) rfl (by decide) (by decide) rfl (Nat.le_of_ble_eq_true rfl) hc dL_law_1287 ?_
  refine gr_icmp_eq 1348 F.1 dL_law_1290 (by decide) (fun _ => ?_) (fun g => absurd rfl g)
  exact kk x pf _ gz_StL.rf F (hu.le (by omega)) (by rw [gz_sCpR, gz_sCpC, gz_sRpR]; exact hRR)
theorem gq_case_38 (hl9 : l.stackTraces = false) (F : gq_LF x pf l b L xs) (hL : L ≤ 3072) (hi : i + 6 ≤ L) (hu : gz_UL x (k + 1)) (hR : gp_R B pf (gz_sC M) (gz_sR M)) (kk : gq_K B x l b L xs i k) : gz_At x 1295 (gq_lv x b i) [] M := by
  obtain ⟨cu, tx, bk, us, ks, o, h⟩ := hR
  have hc := hu.c
  obtain ⟨v, v', Mc, Mr, e1, e2, hRR⟩ := gp_a40w h (xs (i + 1))
  refine gr_aload_n F.1 dL_law_1295 1 rfl rfl ?_
  refine gq_arg F hL (q := 1) rfl (by omega) 0 4 rfl rfl dL_law_1296 dL_law_1297 dL_law_1299 dL_law_1300 dL_law_1301 ?_
  refine gr_callI (kb := 0) [.int (xs (i + 1))] F.1 (gz_liftCI (asF := fun ad => [.ref (ad 0), .int (xs (i + 1))]) (c11_count e1)) rfl wm_RL_188 rfl (F.1.kd gk_L0).1 ((F.1.kd gk_L0).2 _ _ _ _) rfl (by decide) (by decide) rfl (Nat.le_of_ble_eq_true rfl) hc dL_law_1302 ?_
  refine gr_pop F.1 dL_law_1305 rfl ?_
  refine gr_aload_n F.1 dL_law_1306 2 rfl rfl ?_
  refine gq_arg F hL (q := 1) rfl (by omega) 0 4 rfl rfl dL_law_1307 dL_law_1308 dL_law_1310 dL_law_1311 dL_law_1312 ?_
  have e2b : f12_count (xs (i + 1)) (gz_sR (gz_pC M Mc)) = some (v', Mr) := by rw [gz_sRpC]; exact e2
  refine gr_callI (kb := 1) [.int (xs (i + 1))] F.1 (gz_liftRI (asF := fun ad => [.ref (ad 0), .int (xs (i + 1))]) (c12_count e2b)) rfl wm_RL_191 rfl (F.1.kd gk_L1).1 ((F.1.kd gk_L1).2 _ _ _ _) rfl (by decide) (by decide) rfl (Nat.le_of_ble_eq_true rfl) hc dL_law_1313 ?_
  refine gr_pop F.1 dL_law_1316 rfl ?_
  refine gr_goto 1348 F.1 dL_law_1317 (by decide) ?_
  exact kk x pf _ gz_StL.rf F (hu.le (by omega)) (by rw [gz_sCpR, gz_sCpC, gz_sRpR]; exact hRR)
theorem gq_case_39 (hl9 : l.stackTraces = false) (F : gq_LF x pf l b L xs) (hL : L ≤ 3072) (hi : i + 6 ≤ L) (hu : gz_UL x (k + 1)) (hR : gp_R B pf (gz_sC M) (gz_sR M)) (kk : gq_K B x l b L xs i k) : gz_At x 1320 (gq_lv x b i) [] M := by
  obtain ⟨cu, tx, bk, us, ks, o, h⟩ := hR
  have hc := hu.c
  obtain ⟨r, v, Mc, Mr, e1, e2, hRR⟩ := gp_a41w h (xs (i + 1))
  have hS1 : gz_StL x (gz_set x (gx_ad x) (gx_pf x) (gx_cells x + 1) (gx_slots x + 6)) := ⟨⟨_, _, _, _, rfl⟩, fun _ h => ⟨h, rfl⟩⟩
  have X1 := gq_Xs F.1 (gx_cells x + 1) (gx_slots x + 6)
  have F1 := F.of hS1 X1
  have hu1 : gz_UL (gz_set x (gx_ad x) (gx_pf x) (gx_cells x + 1) (gx_slots x + 6)) k := ⟨by show gx_cells x + 1 + 4 * k ≤ (gx_R x).cells; have := hu.1; omega, by show gx_slots x + 6 + 109 * k ≤ (gx_R x).slots; have := hu.2; omega⟩
  have hc1 := hu1.c
  refine gr_aload_n F.1 dL_law_1320 1 rfl rfl ?_
  refine gq_arg F hL (q := 1) rfl (by omega) 0 4 rfl rfl dL_law_1321 dL_law_1322 dL_law_1324 dL_law_1325 dL_law_1326 ?_
  refine gr_aload_n F.1 dL_law_1327 3 rfl rfl ?_
  refine gr_callH (st := []) (n := 3) (asF := fun ad => [.ref (ad 0), .int (xs (i + 1)), .ref (ad 2)]) [.ref (gx_ad x 0), .int (xs (i + 1)), .ref (gx_ad x 2)] F ⟨by have := hu.1; omega, by have := hu.2; omega⟩ (cL_row_ok hl9 e1) rfl (gz_in 1147 (by decide +kernel) rfl) (gz_in 1148 (by decide +kernel) rfl) (gz_in 84 (by decide +kernel) rfl) (gz_in 1149 (by decide +kernel) rfl) (by decide +kernel) rfl (by decide) (by decide) rfl (Nat.le_of_ble_eq_true rfl) dL_law_1328 ?_
  refine gr_istore ((5, .int (gq_hv r)) :: gq_lv x b i) X1 dL_law_1331 rfl (by decide) rfl ?_
  refine gr_aload_n X1 dL_law_1333 3 rfl rfl ?_
  refine gq_arg F1 hL (q := 1) rfl (by omega) 1 5 rfl rfl dL_law_1334 dL_law_1335 dL_law_1337 dL_law_1338 dL_law_1339 ?_
  have e2b : f12_row (xs (i + 1)) (gz_sR (gq_hM M Mc r)) = some (v, Mr) := by rw [gq_sRhM]; exact e2
  refine gr_callL (kb := 1) [.int (xs (i + 1))] X1 (gz_liftRL (asF := fun ad => [.ref (ad 0), .int (xs (i + 1))]) (c12_row e2b)) rfl wm_RL_194 rfl (X1.kd gk_L1).1 ((X1.kd gk_L1).2 _ _ _ _) rfl (by decide) (by decide) rfl (Nat.le_of_ble_eq_true rfl) hc1 dL_law_1340 ?_
  refine gr_lstore ((6, .long v) :: (5, .int (gq_hv r)) :: gq_lv x b i) X1 dL_law_1343 (by decide) rfl ?_
  refine gr_goto 1348 X1 dL_law_1345 (by decide) ?_
  refine gr_sub (lv' := gq_lv x b i) [2, 3, 4, 5, 6] rfl ?_
  exact kk _ pf _ hS1 F1 hu1 (by rw [gz_sCpR, gq_sChM, gz_sRpR]; exact hRR)
end
end
section
/-! the law's loop -/
def gq_E (x : gz_X) (l : Launch) : Prop := ∀ x' pf' M' lv, gz_StL x x' → gz_Ok x' cL_law RL 8 60 gz_cfL pf' l → gz_UL x' 0 → gz_At x' 1355 lv [.int 1] M'
section
variable {B : Prop} {x : gz_X} {pf : Nat → Bool} {l : Launch} {b L i k : Nat} {xs : Nat → Int32} {M : gz_M}
theorem gq_m6 (hL : L ≤ 3072) : (nI L - 6).toInt = (L : Int) - 6 := by
  by_cases h : 6 ≤ L
  · rw [show (6 : Int32) = nI 6 from rfl, gp_subI h, nI_toInt (by omega)]
    omega
  · have : L = 0 ∨ L = 1 ∨ L = 2 ∨ L = 3 ∨ L = 4 ∨ L = 5 := by omega
    rcases this with rfl | rfl | rfl | rfl | rfl | rfl <;> decide
theorem gq_cases (hl9 : l.stackTraces = false) (hbnd : B → ∀ z, gp_okB z → gp_bnd (gp_tab z.1)) (F : gq_LF x pf l b L xs) (hL : L ≤ 3072) (hi : i + 6 ≤ L) (hu : gz_UL x (k + 1)) (hR : gp_R B pf (gz_sC M) (gz_sR M)) (kk : gq_K B x l b L xs i k) {a : Int32} : gz_At x 40 (gq_lv x b i) [.int a] M := by
  have out : a.toInt < 0 ∨ 39 < a.toInt → gz_At x 40 (gq_lv x b i) [.int a] M := fun h => gr_tsOut 1348 F.1 dL_law_40 h (by decide) (kk x pf M gz_StL.rf F (hu.le (by omega)) hR)
  rcases pk_ix a (n := 40) (by omega) with ha | ha | ⟨j, hj, rfl⟩
  · exact out (Or.inl (gp_tneg ha))
  · have g := gp_tge (by omega) ha
    exact out (Or.inr (by omega))
  · clear out
    match j, hj with
    | 0, _ => exact gr_tsIn (nI 0) 176 216 F.1 dL_law_40 rfl (by decide) (by decide) (by decide) (by decide) (gq_case_0 hl9 F hL hi hu hR kk)
    | 1, _ => exact gr_tsIn (nI 1) 201 241 F.1 dL_law_40 rfl (by decide) (by decide) (by decide) (by decide) (gq_case_1 hl9 F hL hi hu hR kk)
    | 2, _ => exact gr_tsIn (nI 2) 226 266 F.1 dL_law_40 rfl (by decide) (by decide) (by decide) (by decide) (gq_case_2 hl9 F hL hi hu hR kk)
    | 3, _ => exact gr_tsIn (nI 3) 239 279 F.1 dL_law_40 rfl (by decide) (by decide) (by decide) (by decide) (gq_case_3 hl9 F hL hi hu hR kk)
    | 4, _ => exact gr_tsIn (nI 4) 252 292 F.1 dL_law_40 rfl (by decide) (by decide) (by decide) (by decide) (gq_case_4 hl9 F hL hi hu hR kk)
    | 5, _ => exact gr_tsIn (nI 5) 292 332 F.1 dL_law_40 rfl (by decide) (by decide) (by decide) (by decide) (gq_case_5 hl9 F hL hi hu hR kk)
    | 6, _ => exact gr_tsIn (nI 6) 320 360 F.1 dL_law_40 rfl (by decide) (by decide) (by decide) (by decide) (gq_case_6 hl9 F hL hi hu hR kk)
    | 7, _ => exact gr_tsIn (nI 7) 381 421 F.1 dL_law_40 rfl (by decide) (by decide) (by decide) (by decide) (gq_case_7 hl9 F hL hi hu hR kk)
    | 8, _ => exact gr_tsIn (nI 8) 394 434 F.1 dL_law_40 rfl (by decide) (by decide) (by decide) (by decide) (gq_case_8 hl9 F hL hi hu hR kk)
    | 9, _ => exact gr_tsIn (nI 9) 434 474 F.1 dL_law_40 rfl (by decide) (by decide) (by decide) (by decide) (gq_case_9 hl9 F hL hi hu hR kk)
    | 10, _ => exact gr_tsIn (nI 10) 459 499 F.1 dL_law_40 rfl (by decide) (by decide) (by decide) (by decide) (gq_case_10 hl9 F hL hi hu hR kk)
    | 11, _ => exact gr_tsIn (nI 11) 484 524 F.1 dL_law_40 rfl (by decide) (by decide) (by decide) (by decide) (gq_case_11 hl9 F hL hi hu hR kk)
    | 12, _ => exact gr_tsIn (nI 12) 497 537 F.1 dL_law_40 rfl (by decide) (by decide) (by decide) (by decide) (gq_case_12 hl9 F hL hi hu hR kk)
    | 13, _ => exact gr_tsIn (nI 13) 522 562 F.1 dL_law_40 rfl (by decide) (by decide) (by decide) (by decide) (gq_case_13 hl9 F hL hi hu hR kk)
    | 14, _ => exact gr_tsIn (nI 14) 547 587 F.1 dL_law_40 rfl (by decide) (by decide) (by decide) (by decide) (gq_case_14 hl9 F hL hi hu hR kk)
    | 15, _ => exact gr_tsIn (nI 15) 572 612 F.1 dL_law_40 rfl (by decide) (by decide) (by decide) (by decide) (gq_case_15 hl9 F hL hi hu hR kk)
    | 16, _ => exact gr_tsIn (nI 16) 597 637 F.1 dL_law_40 rfl (by decide) (by decide) (by decide) (by decide) (gq_case_16 hl9 F hL hi hu hR kk)
    | 17, _ => exact gr_tsIn (nI 17) 610 650 F.1 dL_law_40 rfl (by decide) (by decide) (by decide) (by decide) (gq_case_17 hl9 F hL hi hu hR kk)
    | 18, _ => exact gr_tsIn (nI 18) 623 663 F.1 dL_law_40 rfl (by decide) (by decide) (by decide) (by decide) (gq_case_18 hl9 F hL hi hu hR kk)
    | 19, _ => exact gr_tsIn (nI 19) 660 700 F.1 dL_law_40 rfl (by decide) (by decide) (by decide) (by decide) (gq_case_19 hl9 F hL hi hu hR kk)
    | 20, _ => exact gr_tsIn (nI 20) 697 737 F.1 dL_law_40 rfl (by decide) (by decide) (by decide) (by decide) (gq_case_20 hl9 F hL hi hu hR kk)
    | 21, _ => exact gr_tsIn (nI 21) 746 786 F.1 dL_law_40 rfl (by decide) (by decide) (by decide) (by decide) (gq_case_21 hl9 F hL hi hu hR kk)
    | 22, _ => exact gr_tsIn (nI 22) 771 811 F.1 dL_law_40 rfl (by decide) (by decide) (by decide) (by decide) (gq_case_22 hl9 hbnd F hL hi hu hR kk)
    | 23, _ => exact gr_tsIn (nI 23) 796 836 F.1 dL_law_40 rfl (by decide) (by decide) (by decide) (by decide) (gq_case_23 hl9 F hL hi hu hR kk)
    | 24, _ => exact gr_tsIn (nI 24) 809 849 F.1 dL_law_40 rfl (by decide) (by decide) (by decide) (by decide) (gq_case_24 hl9 hbnd F hL hi hu hR kk)
    | 25, _ => exact gr_tsIn (nI 25) 846 886 F.1 dL_law_40 rfl (by decide) (by decide) (by decide) (by decide) (gq_case_25 hl9 F hL hi hu hR kk)
    | 26, _ => exact gr_tsIn (nI 26) 883 923 F.1 dL_law_40 rfl (by decide) (by decide) (by decide) (by decide) (gq_case_26 hl9 F hL hi hu hR kk)
    | 27, _ => exact gr_tsIn (nI 27) 920 960 F.1 dL_law_40 rfl (by decide) (by decide) (by decide) (by decide) (gq_case_27 hl9 F hL hi hu hR kk)
    | 28, _ => exact gr_tsIn (nI 28) 945 985 F.1 dL_law_40 rfl (by decide) (by decide) (by decide) (by decide) (gq_case_28 hl9 F hL hi hu hR kk)
    | 29, _ => exact gr_tsIn (nI 29) 1018 1058 F.1 dL_law_40 rfl (by decide) (by decide) (by decide) (by decide) (gq_case_29 hl9 F hL hi hu hR kk)
    | 30, _ => exact gr_tsIn (nI 30) 1055 1095 F.1 dL_law_40 rfl (by decide) (by decide) (by decide) (by decide) (gq_case_30 hl9 F hL hi hu hR kk)
    | 31, _ => exact gr_tsIn (nI 31) 1092 1132 F.1 dL_law_40 rfl (by decide) (by decide) (by decide) (by decide) (gq_case_31 hl9 F hL hi hu hR kk)
    | 32, _ => exact gr_tsIn (nI 32) 1117 1157 F.1 dL_law_40 rfl (by decide) (by decide) (by decide) (by decide) (gq_case_32 hl9 F hL hi hu hR kk)
    | 33, _ => exact gr_tsIn (nI 33) 1142 1182 F.1 dL_law_40 rfl (by decide) (by decide) (by decide) (by decide) (gq_case_33 hl9 F hL hi hu hR kk)
    | 34, _ => exact gr_tsIn (nI 34) 1155 1195 F.1 dL_law_40 rfl (by decide) (by decide) (by decide) (by decide) (gq_case_34 hl9 F hL hi hu hR kk)
    | 35, _ => exact gr_tsIn (nI 35) 1168 1208 F.1 dL_law_40 rfl (by decide) (by decide) (by decide) (by decide) (gq_case_35 hl9 F hL hi hu hR kk)
    | 36, _ => exact gr_tsIn (nI 36) 1205 1245 F.1 dL_law_40 rfl (by decide) (by decide) (by decide) (by decide) (gq_case_36 hl9 F hL hi hu hR kk)
    | 37, _ => exact gr_tsIn (nI 37) 1230 1270 F.1 dL_law_40 rfl (by decide) (by decide) (by decide) (by decide) (gq_case_37 hl9 F hL hi hu hR kk)
    | 38, _ => exact gr_tsIn (nI 38) 1255 1295 F.1 dL_law_40 rfl (by decide) (by decide) (by decide) (by decide) (gq_case_38 hl9 F hL hi hu hR kk)
    | 39, _ => exact gr_tsIn (nI 39) 1280 1320 F.1 dL_law_40 rfl (by decide) (by decide) (by decide) (by decide) (gq_case_39 hl9 F hL hi hu hR kk)
    | j + 40, hj => exact absurd hj (by omega)
theorem gq_loop (hl9 : l.stackTraces = false) (hbnd : B → ∀ z, gp_okB z → gp_bnd (gp_tab z.1)) (hL : L ≤ 3072) : ∀ (k : Nat) (x : gz_X) (pf : Nat → Bool) (M : gz_M) (i : Nat), gq_LF x pf l b L xs → L < i + 6 * k + 6 → i ≤ 3078 → gz_UL x k → gp_R B pf (gz_sC M) (gz_sR M) → gq_E x l → gz_At x 23 (gq_lv x b i) [] M := by
  intro k
  induction k with
  | zero =>
    intro x pf M i F hk hi hu hR hE
    refine gr_iload F.1 dL_law_23 4 rfl ?_
    refine gr_aload_n F.1 dL_law_25 0 rfl rfl ?_
    refine gr_slen F dL_law_26 ?_
    refine gr_bipush 6 F.1 dL_law_27 (by decide) ?_
    refine gr_isub F.1 dL_law_29 ?_
    refine gr_icmp_gt 1354 F.1 dL_law_30 (by decide) (fun _ => ?_) (fun h => ?_)
    · refine gr_iconst 1 F.1 dL_law_1354 rfl ?_
      exact hE x pf M _ gz_StL.rf F.1 hu
    · refine absurd ?_ h
      rw [Int32.lt_iff_toInt_lt, gq_m6 hL, nI_toInt (by omega)]
      omega
  | succ k ih =>
    intro x pf M i F hk hi hu hR hE
    refine gr_iload F.1 dL_law_23 4 rfl ?_
    refine gr_aload_n F.1 dL_law_25 0 rfl rfl ?_
    refine gr_slen F dL_law_26 ?_
    refine gr_bipush 6 F.1 dL_law_27 (by decide) ?_
    refine gr_isub F.1 dL_law_29 ?_
    refine gr_icmp_gt 1354 F.1 dL_law_30 (by decide) (fun _ => ?_) (fun h => ?_)
    · refine gr_iconst 1 F.1 dL_law_1354 rfl ?_
      exact hE x pf M _ gz_StL.rf F.1 (hu.le (by omega))
    · have hi6 : i + 6 ≤ L := by
        rw [Int32.lt_iff_toInt_lt, gq_m6 hL, nI_toInt (by omega)] at h
        omega
      refine gr_aload_n F.1 dL_law_33 0 rfl rfl ?_
      refine gr_iload F.1 dL_law_34 4 rfl ?_
      refine gr_sld F (by omega) hL dL_law_36 ?_
      refine gr_bipush 63 F.1 dL_law_37 (by decide) ?_
      refine gr_iand F.1 dL_law_39 ?_
      refine gq_cases hl9 hbnd F hL hi6 hu hR (fun x1 pf1 M1 hS F1 hu1 hR1 => ?_)
      refine gr_iinc 6 ((4, .int (nI (i + 6))) :: [(0, .ref b), (1, .ref (gx_ad x1 0)), (2, .ref (gx_ad x1 1)), (3, .ref (gx_ad x1 2))]) F1.1 dL_law_1348 4 rfl rfl (by rw [show (6 : Int32) = nI 6 from rfl, nI_add]) (by decide) rfl ?_
      refine gr_goto 23 F1.1 dL_law_1351 (by decide) ?_
      refine gr_sub (lv' := gq_lv x1 b (i + 6)) [1, 2, 3, 4, 0] rfl ?_
      exact ih x1 pf1 M1 (i + 6) F1 (by omega) (by omega) hu1 hR1 (fun x' pf' M' lv h1 h2 h3 => hE x' pf' M' lv (hS.tr h1) h2 h3)
end
end
