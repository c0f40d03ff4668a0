section
variable {B : Prop} {x : gz_X} {pf : Nat → Bool} {l : Launch} {b L i k : Nat} {xs : Nat → Int32} {M : gz_M}
theorem gq_case_28 (hl9 : l.stackTraces = false) (F : gq_LF x pf l b L xs) (hL : L ≤ 3072) (hi : i + 6 ≤ L) (hu : gz_UL x (k + 1)) (hR : gp_R B pf (gz_sC M) (gz_sR M)) (kk : gq_K B x l b L xs i k) : gz_At x 1069 (gq_lv x b i) [] M := by
  obtain ⟨cu, tx, bk, us, ks, o, h⟩ := hR
  have hc := hu.c
  obtain ⟨v, Mc, Mr, e1, e2, hRR⟩ := h.q (gp_a30 h.1 (xs (i + 1)) (xs (i + 2)) (xs (i + 3)) (xs (i + 4)) (xs (i + 5)))
  refine gr_aload_n F.1 dL_law_1069 1 rfl rfl ?_
  refine gq_arg F hL (q := 1) rfl (by omega) 0 4 rfl rfl dL_law_1070 dL_law_1071 dL_law_1073 dL_law_1074 dL_law_1075 ?_
  refine gq_arg F hL (q := 2) rfl (by omega) 0 4 rfl rfl dL_law_1076 dL_law_1077 dL_law_1079 dL_law_1080 dL_law_1081 ?_
  refine gq_arg F hL (q := 3) rfl (by omega) 0 4 rfl rfl dL_law_1082 dL_law_1083 dL_law_1085 dL_law_1086 dL_law_1087 ?_
  refine gq_arg F hL (q := 4) rfl (by omega) 0 4 rfl rfl dL_law_1088 dL_law_1089 dL_law_1091 dL_law_1092 dL_law_1093 ?_
  refine gq_arg F hL (q := 5) rfl (by omega) 0 4 rfl rfl dL_law_1094 dL_law_1095 dL_law_1097 dL_law_1098 dL_law_1099 ?_
  refine gr_callI (kb := 0) [.int (xs (i + 1)), .int (xs (i + 2)), .int (xs (i + 3)), .int (xs (i + 4)), .int (xs (i + 5))] F.1 (gz_liftCI (asF := fun ad => [.ref (ad 0), .int (xs (i + 1)), .int (xs (i + 2)), .int (xs (i + 3)), .int (xs (i + 4)), .int (xs (i + 5))]) (c11_same e1)) rfl wm_RL_150 rfl (F.1.kd gk_L0).1 ((F.1.kd gk_L0).2 _ _ _ _) rfl (by decide) (by decide) rfl (Nat.le_of_ble_eq_true rfl) hc dL_law_1100 ?_
  refine gr_aload_n F.1 dL_law_1103 2 rfl rfl ?_
  refine gq_arg F hL (q := 1) rfl (by omega) 0 4 rfl rfl dL_law_1104 dL_law_1105 dL_law_1107 dL_law_1108 dL_law_1109 ?_
  refine gq_arg F hL (q := 2) rfl (by omega) 0 4 rfl rfl dL_law_1110 dL_law_1111 dL_law_1113 dL_law_1114 dL_law_1115 ?_
  refine gq_arg F hL (q := 3) rfl (by omega) 0 4 rfl rfl dL_law_1116 dL_law_1117 dL_law_1119 dL_law_1120 dL_law_1121 ?_
  refine gq_arg F hL (q := 4) rfl (by omega) 0 4 rfl rfl dL_law_1122 dL_law_1123 dL_law_1125 dL_law_1126 dL_law_1127 ?_
  refine gq_arg F hL (q := 5) rfl (by omega) 0 4 rfl rfl dL_law_1128 dL_law_1129 dL_law_1131 dL_law_1132 dL_law_1133 ?_
  have e2b : f12_same (xs (i + 1)) (xs (i + 2)) (xs (i + 3)) (xs (i + 4)) (xs (i + 5)) (gz_sR (gz_pC M Mc)) = some (v, Mr) := by rw [gz_sRpC]; exact e2
  refine gr_callI (kb := 1) [.int (xs (i + 1)), .int (xs (i + 2)), .int (xs (i + 3)), .int (xs (i + 4)), .int (xs (i + 5))] F.1 (gz_liftRI (asF := fun ad => [.ref (ad 0), .int (xs (i + 1)), .int (xs (i + 2)), .int (xs (i + 3)), .int (xs (i + 4)), .int (xs (i + 5))]) (c12_same e2b)) rfl wm_RL_154 rfl (F.1.kd gk_L1).1 ((F.1.kd gk_L1).2 _ _ _ _) rfl (by decide) (by decide) rfl (Nat.le_of_ble_eq_true rfl) hc dL_law_1134 ?_
  refine gr_icmp_eq 1459 F.1 dL_law_1137 (by decide) (fun _ => ?_) (fun g => absurd rfl g)
  exact kk x pf _ gz_StL.rf F (hu.le (by omega)) (by rw [gz_sCpR, gz_sCpC, gz_sRpR]; exact hRR)
theorem gq_case_29 (hl9 : l.stackTraces = false) (F : gq_LF x pf l b L xs) (hL : L ≤ 3072) (hi : i + 6 ≤ L) (hu : gz_UL x (k + 1)) (hR : gp_R B pf (gz_sC M) (gz_sR M)) (kk : gq_K B x l b L xs i k) : gz_At x 1142 (gq_lv x b i) [] M := by
  obtain ⟨cu, tx, bk, us, ks, o, h⟩ := hR
  have hc := hu.c
  obtain ⟨v, Mc, pf1, Mr, e1, e2, hRR⟩ := gp_a31 h (xs (i + 1)) (xs (i + 2))
  refine gr_aload_n F.1 dL_law_1142 1 rfl rfl ?_
  refine gq_arg F hL (q := 1) rfl (by omega) 0 4 rfl rfl dL_law_1143 dL_law_1144 dL_law_1146 dL_law_1147 dL_law_1148 ?_
  refine gq_arg F hL (q := 2) rfl (by omega) 0 4 rfl rfl dL_law_1149 dL_law_1150 dL_law_1152 dL_law_1153 dL_law_1154 ?_
  refine gr_callAIL (kb := 0) (k := k) [.int (xs (i + 1)), .int (xs (i + 2))] F.1 F.2.2.2.1 hu (gz_liftA (asF := fun ad => [.ref (ad 0), .int (xs (i + 1)), .int (xs (i + 2))]) (ce11_becomes e1)) rfl wm_RL_155 rfl (F.1.kd gk_L0).1 ((F.1.kd gk_L0).2 _ _ _ _) rfl (by decide) (by decide) rfl (Nat.le_of_ble_eq_true rfl) dL_law_1155 (fun x1 hS X1 hu1 => ?_)
  have F1 := F.of hS X1
  have hc1 := hu1.c
  rw [gq_lv_st hS]
  refine gr_aload_n X1 dL_law_1158 2 rfl rfl ?_
  refine gq_arg F1 hL (q := 1) rfl (by omega) 0 4 rfl rfl dL_law_1159 dL_law_1160 dL_law_1162 dL_law_1163 dL_law_1164 ?_
  refine gq_arg F1 hL (q := 2) rfl (by omega) 0 4 rfl rfl dL_law_1165 dL_law_1166 dL_law_1168 dL_law_1169 dL_law_1170 ?_
  have e2b : f12_becomes (xs (i + 1)) (xs (i + 2)) (gz_sR (gz_pC M Mc)) = some (v, Mr) := by rw [gz_sRpC]; exact e2
  refine gr_callI (kb := 1) [.int (xs (i + 1)), .int (xs (i + 2))] X1 (gz_liftRI (asF := fun ad => [.ref (ad 0), .int (xs (i + 1)), .int (xs (i + 2))]) (c12_becomes e2b)) rfl wm_RL_158 rfl (X1.kd gk_L1).1 ((X1.kd gk_L1).2 _ _ _ _) rfl (by decide) (by decide) rfl (Nat.le_of_ble_eq_true rfl) hc1 dL_law_1171 ?_
  refine gr_icmp_eq 1459 X1 dL_law_1174 (by decide) (fun _ => ?_) (fun g => absurd rfl g)
  exact kk x1 pf1 _ hS F1 hu1 (by rw [gz_sCpR, gz_sCpC, gz_sRpR]; exact hRR)
theorem gq_case_30 (hl9 : l.stackTraces = false) (F : gq_LF x pf l b L xs) (hL : L ≤ 3072) (hi : i + 6 ≤ L) (hu : gz_UL x (k + 1)) (hR : gp_R B pf (gz_sC M) (gz_sR M)) (kk : gq_K B x l b L xs i k) : gz_At x 1179 (gq_lv x b i) [] M := by
  obtain ⟨cu, tx, bk, us, ks, o, h⟩ := hR
  have hc := hu.c
  obtain ⟨v, Mc, pf1, Mr, e1, e2, hRR⟩ := gp_a32 h (xs (i + 1)) (xs (i + 2))
  refine gr_aload_n F.1 dL_law_1179 1 rfl rfl ?_
  refine gq_arg F hL (q := 1) rfl (by omega) 0 4 rfl rfl dL_law_1180 dL_law_1181 dL_law_1183 dL_law_1184 dL_law_1185 ?_
  refine gq_arg F hL (q := 2) rfl (by omega) 0 4 rfl rfl dL_law_1186 dL_law_1187 dL_law_1189 dL_law_1190 dL_law_1191 ?_
  refine gr_callAIL (kb := 0) (k := k) [.int (xs (i + 1)), .int (xs (i + 2))] F.1 F.2.2.2.1 hu (gz_liftA (asF := fun ad => [.ref (ad 0), .int (xs (i + 1)), .int (xs (i + 2))]) (ce11_comes e1)) rfl wm_RL_159 rfl (F.1.kd gk_L0).1 ((F.1.kd gk_L0).2 _ _ _ _) rfl (by decide) (by decide) rfl (Nat.le_of_ble_eq_true rfl) dL_law_1192 (fun x1 hS X1 hu1 => ?_)
  have F1 := F.of hS X1
  have hc1 := hu1.c
  rw [gq_lv_st hS]
  refine gr_aload_n X1 dL_law_1195 2 rfl rfl ?_
  refine gq_arg F1 hL (q := 1) rfl (by omega) 0 4 rfl rfl dL_law_1196 dL_law_1197 dL_law_1199 dL_law_1200 dL_law_1201 ?_
  refine gq_arg F1 hL (q := 2) rfl (by omega) 0 4 rfl rfl dL_law_1202 dL_law_1203 dL_law_1205 dL_law_1206 dL_law_1207 ?_
  have e2b : f12_comes (xs (i + 1)) (xs (i + 2)) (gz_sR (gz_pC M Mc)) = some (v, Mr) := by rw [gz_sRpC]; exact e2
  refine gr_callI (kb := 1) [.int (xs (i + 1)), .int (xs (i + 2))] X1 (gz_liftRI (asF := fun ad => [.ref (ad 0), .int (xs (i + 1)), .int (xs (i + 2))]) (c12_comes e2b)) rfl wm_RL_162 rfl (X1.kd gk_L1).1 ((X1.kd gk_L1).2 _ _ _ _) rfl (by decide) (by decide) rfl (Nat.le_of_ble_eq_true rfl) hc1 dL_law_1208 ?_
  refine gr_icmp_eq 1459 X1 dL_law_1211 (by decide) (fun _ => ?_) (fun g => absurd rfl g)
  exact kk x1 pf1 _ hS F1 hu1 (by rw [gz_sCpR, gz_sCpC, gz_sRpR]; exact hRR)
theorem gq_case_31 (hl9 : l.stackTraces = false) (F : gq_LF x pf l b L xs) (hL : L ≤ 3072) (hi : i + 6 ≤ L) (hu : gz_UL x (k + 1)) (hR : gp_R B pf (gz_sC M) (gz_sR M)) (kk : gq_K B x l b L xs i k) : gz_At x 1216 (gq_lv x b i) [] M := by
  obtain ⟨cu, tx, bk, us, ks, o, h⟩ := hR
  have hc := hu.c
  obtain ⟨v, Mc, pf1, Mr, e1, e2, hRR⟩ := gp_a33 h (xs (i + 1))
  refine gr_aload_n F.1 dL_law_1216 1 rfl rfl ?_
  refine gq_arg F hL (q := 1) rfl (by omega) 0 4 rfl rfl dL_law_1217 dL_law_1218 dL_law_1220 dL_law_1221 dL_law_1222 ?_
  refine gr_callAIL (kb := 0) (k := k) [.int (xs (i + 1))] F.1 F.2.2.2.1 hu (gz_liftA (asF := fun ad => [.ref (ad 0), .int (xs (i + 1))]) (ce11_goes e1)) rfl wm_RL_163 rfl (F.1.kd gk_L0).1 ((F.1.kd gk_L0).2 _ _ _ _) rfl (by decide) (by decide) rfl (Nat.le_of_ble_eq_true rfl) dL_law_1223 (fun x1 hS X1 hu1 => ?_)
  have F1 := F.of hS X1
  have hc1 := hu1.c
  rw [gq_lv_st hS]
  refine gr_aload_n X1 dL_law_1226 2 rfl rfl ?_
  refine gq_arg F1 hL (q := 1) rfl (by omega) 0 4 rfl rfl dL_law_1227 dL_law_1228 dL_law_1230 dL_law_1231 dL_law_1232 ?_
  have e2b : f12_goes (xs (i + 1)) (gz_sR (gz_pC M Mc)) = some (v, Mr) := by rw [gz_sRpC]; exact e2
  refine gr_callI (kb := 1) [.int (xs (i + 1))] X1 (gz_liftRI (asF := fun ad => [.ref (ad 0), .int (xs (i + 1))]) (c12_goes e2b)) rfl wm_RL_166 rfl (X1.kd gk_L1).1 ((X1.kd gk_L1).2 _ _ _ _) rfl (by decide) (by decide) rfl (Nat.le_of_ble_eq_true rfl) hc1 dL_law_1233 ?_
  refine gr_icmp_eq 1459 X1 dL_law_1236 (by decide) (fun _ => ?_) (fun g => absurd rfl g)
  exact kk x1 pf1 _ hS F1 hu1 (by rw [gz_sCpR, gz_sCpC, gz_sRpR]; exact hRR)
theorem gq_case_32 (hl9 : l.stackTraces = false) (F : gq_LF x pf l b L xs) (hL : L ≤ 3072) (hi : i + 6 ≤ L) (hu : gz_UL x (k + 1)) (hR : gp_R B pf (gz_sC M) (gz_sR M)) (kk : gq_K B x l b L xs i k) : gz_At x 1241 (gq_lv x b i) [] M := by
  obtain ⟨cu, tx, bk, us, ks, o, h⟩ := hR
  have hc := hu.c
  obtain ⟨v, Mc, Mr, e1, e2, hRR⟩ := h.q (gp_a34 h.1 (xs (i + 1)))
  refine gr_aload_n F.1 dL_law_1241 1 rfl rfl ?_
  refine gq_arg F hL (q := 1) rfl (by omega) 0 4 rfl rfl dL_law_1242 dL_law_1243 dL_law_1245 dL_law_1246 dL_law_1247 ?_
  refine gr_callI (kb := 0) [.int (xs (i + 1))] F.1 (gz_liftCI (asF := fun ad => [.ref (ad 0), .int (xs (i + 1))]) (c11_mends e1)) rfl wm_RL_167 rfl (F.1.kd gk_L0).1 ((F.1.kd gk_L0).2 _ _ _ _) rfl (by decide) (by decide) rfl (Nat.le_of_ble_eq_true rfl) hc dL_law_1248 ?_
  refine gr_aload_n F.1 dL_law_1251 2 rfl rfl ?_
  refine gq_arg F hL (q := 1) rfl (by omega) 0 4 rfl rfl dL_law_1252 dL_law_1253 dL_law_1255 dL_law_1256 dL_law_1257 ?_
  have e2b : f12_mends (xs (i + 1)) (gz_sR (gz_pC M Mc)) = some (v, Mr) := by rw [gz_sRpC]; exact e2
  refine gr_callI (kb := 1) [.int (xs (i + 1))] F.1 (gz_liftRI (asF := fun ad => [.ref (ad 0), .int (xs (i + 1))]) (c12_mends e2b)) rfl wm_RL_170 rfl (F.1.kd gk_L1).1 ((F.1.kd gk_L1).2 _ _ _ _) rfl (by decide) (by decide) rfl (Nat.le_of_ble_eq_true rfl) hc dL_law_1258 ?_
  refine gr_icmp_eq 1459 F.1 dL_law_1261 (by decide) (fun _ => ?_) (fun g => absurd rfl g)
  exact kk x pf _ gz_StL.rf F (hu.le (by omega)) (by rw [gz_sCpR, gz_sCpC, gz_sRpR]; exact hRR)
theorem gq_case_33 (hl9 : l.stackTraces = false) (F : gq_LF x pf l b L xs) (hL : L ≤ 3072) (hi : i + 6 ≤ L) (hu : gz_UL x (k + 1)) (hR : gp_R B pf (gz_sC M) (gz_sR M)) (kk : gq_K B x l b L xs i k) : gz_At x 1266 (gq_lv x b i) [] M := by
  obtain ⟨cu, tx, bk, us, ks, o, h⟩ := hR
  have hc := hu.c
  obtain ⟨v, Mc, pf1, Mr, e1, e2, hRR⟩ := gp_a35 h 
  refine gr_aload_n F.1 dL_law_1266 1 rfl rfl ?_
  refine gr_callAIL (kb := 0) (k := k) [] F.1 F.2.2.2.1 hu (gz_liftA (asF := fun ad => [.ref (ad 0)]) (ce11_day e1)) rfl wm_RL_171 rfl (F.1.kd gk_L0).1 ((F.1.kd gk_L0).2 _ _ _ _) rfl (by decide) (by decide) rfl (Nat.le_of_ble_eq_true rfl) dL_law_1267 (fun x1 hS X1 hu1 => ?_)
  have F1 := F.of hS X1
  have hc1 := hu1.c
  rw [gq_lv_st hS]
  refine gr_aload_n X1 dL_law_1270 2 rfl rfl ?_
  have e2b : f12_day  (gz_sR (gz_pC M Mc)) = some (v, Mr) := by rw [gz_sRpC]; exact e2
  refine gr_callI (kb := 1) [] X1 (gz_liftRI (asF := fun ad => [.ref (ad 0)]) (c12_day e2b)) rfl wm_RL_174 rfl (X1.kd gk_L1).1 ((X1.kd gk_L1).2 _ _ _ _) rfl (by decide) (by decide) rfl (Nat.le_of_ble_eq_true rfl) hc1 dL_law_1271 ?_
  refine gr_icmp_eq 1459 X1 dL_law_1274 (by decide) (fun _ => ?_) (fun g => absurd rfl g)
  exact kk x1 pf1 _ hS F1 hu1 (by rw [gz_sCpR, gz_sCpC, gz_sRpR]; exact hRR)
theorem gq_case_34 (hl9 : l.stackTraces = false) (F : gq_LF x pf l b L xs) (hL : L ≤ 3072) (hi : i + 6 ≤ L) (hu : gz_UL x (k + 1)) (hR : gp_R B pf (gz_sC M) (gz_sR M)) (kk : gq_K B x l b L xs i k) : gz_At x 1279 (gq_lv x b i) [] M := by
  obtain ⟨cu, tx, bk, us, ks, o, h⟩ := hR
  have hc := hu.c
  obtain ⟨v, Mc, Mr, e1, e2, hRR⟩ := gp_a36 h 
  refine gr_aload_n F.1 dL_law_1279 1 rfl rfl ?_
  refine gr_callI (kb := 0) [] F.1 (gz_liftCI (asF := fun ad => [.ref (ad 0)]) (c11_undo e1)) rfl wm_RL_175 rfl (F.1.kd gk_L0).1 ((F.1.kd gk_L0).2 _ _ _ _) rfl (by decide) (by decide) rfl (Nat.le_of_ble_eq_true rfl) hc dL_law_1280 ?_
  refine gr_aload_n F.1 dL_law_1283 2 rfl rfl ?_
  have e2b : f12_undo pf  (gz_sR (gz_pC M Mc)) = some (v, Mr) := by rw [gz_sRpC]; exact e2
  refine gr_callI (kb := 1) [] F.1 (gz_liftRI (asF := fun ad => [.ref (ad 0)]) (c12_undo e2b)) rfl wm_RL_178 rfl (F.1.kd gk_L1).1 ((F.1.kd gk_L1).2 _ _ _ _) rfl (by decide) (by decide) rfl (Nat.le_of_ble_eq_true rfl) hc dL_law_1284 ?_
  refine gr_icmp_eq 1459 F.1 dL_law_1287 (by decide) (fun _ => ?_) (fun g => absurd rfl g)
  exact kk x pf _ gz_StL.rf F (hu.le (by omega)) (by rw [gz_sCpR, gz_sCpC, gz_sRpR]; exact hRR)
theorem gq_case_35 (hl9 : l.stackTraces = false) (F : gq_LF x pf l b L xs) (hL : L ≤ 3072) (hi : i + 6 ≤ L) (hu : gz_UL x (k + 1)) (hR : gp_R B pf (gz_sC M) (gz_sR M)) (kk : gq_K B x l b L xs i k) : gz_At x 1292 (gq_lv x b i) [] M := by
  obtain ⟨cu, tx, bk, us, ks, o, h⟩ := hR
  have hc := hu.c
  obtain ⟨v, Mc, Mr, e1, e2, hRR⟩ := gp_a37 h (xs (i + 1)) (xs (i + 2))
  refine gr_aload_n F.1 dL_law_1292 1 rfl rfl ?_
  refine gq_arg F hL (q := 1) rfl (by omega) 0 4 rfl rfl dL_law_1293 dL_law_1294 dL_law_1296 dL_law_1297 dL_law_1298 ?_
  refine gq_arg F hL (q := 2) rfl (by omega) 0 4 rfl rfl dL_law_1299 dL_law_1300 dL_law_1302 dL_law_1303 dL_law_1304 ?_
  refine gr_callI (kb := 0) [.int (xs (i + 1)), .int (xs (i + 2))] F.1 (gz_liftCI (asF := fun ad => [.ref (ad 0), .int (xs (i + 1)), .int (xs (i + 2))]) (c11_years e1)) rfl wm_RL_179 rfl (F.1.kd gk_L0).1 ((F.1.kd gk_L0).2 _ _ _ _) rfl (by decide) (by decide) rfl (Nat.le_of_ble_eq_true rfl) hc dL_law_1305 ?_
  refine gr_aload_n F.1 dL_law_1308 2 rfl rfl ?_
  refine gq_arg F hL (q := 1) rfl (by omega) 0 4 rfl rfl dL_law_1309 dL_law_1310 dL_law_1312 dL_law_1313 dL_law_1314 ?_
  refine gq_arg F hL (q := 2) rfl (by omega) 0 4 rfl rfl dL_law_1315 dL_law_1316 dL_law_1318 dL_law_1319 dL_law_1320 ?_
  have e2b : f12_years (xs (i + 1)) (xs (i + 2)) (gz_sR (gz_pC M Mc)) = some (v, Mr) := by rw [gz_sRpC]; exact e2
  refine gr_callI (kb := 1) [.int (xs (i + 1)), .int (xs (i + 2))] F.1 (gz_liftRI (asF := fun ad => [.ref (ad 0), .int (xs (i + 1)), .int (xs (i + 2))]) (c12_years e2b)) rfl wm_RL_182 rfl (F.1.kd gk_L1).1 ((F.1.kd gk_L1).2 _ _ _ _) rfl (by decide) (by decide) rfl (Nat.le_of_ble_eq_true rfl) hc dL_law_1321 ?_
  refine gr_icmp_eq 1459 F.1 dL_law_1324 (by decide) (fun _ => ?_) (fun g => absurd rfl g)
  exact kk x pf _ gz_StL.rf F (hu.le (by omega)) (by rw [gz_sCpR, gz_sCpC, gz_sRpR]; exact hRR)
theorem gq_case_36 (hl9 : l.stackTraces = false) (F : gq_LF x pf l b L xs) (hL : L ≤ 3072) (hi : i + 6 ≤ L) (hu : gz_UL x (k + 1)) (hR : gp_R B pf (gz_sC M) (gz_sR M)) (kk : gq_K B x l b L xs i k) : gz_At x 1329 (gq_lv x b i) [] M := by
  obtain ⟨cu, tx, bk, us, ks, o, h⟩ := hR
  have hc := hu.c
  obtain ⟨v, Mc, pf1, Mr, e1, e2, hRR⟩ := gp_a38 h (xs (i + 1))
  refine gr_aload_n F.1 dL_law_1329 1 rfl rfl ?_
  refine gq_arg F hL (q := 1) rfl (by omega) 0 4 rfl rfl dL_law_1330 dL_law_1331 dL_law_1333 dL_law_1334 dL_law_1335 ?_
  refine gr_callAIL (kb := 0) (k := k) [.int (xs (i + 1))] F.1 F.2.2.2.1 hu (gz_liftA (asF := fun ad => [.ref (ad 0), .int (xs (i + 1))]) (ce11_keep e1)) rfl wm_RL_183 rfl (F.1.kd gk_L0).1 ((F.1.kd gk_L0).2 _ _ _ _) rfl (by decide) (by decide) rfl (Nat.le_of_ble_eq_true rfl) dL_law_1336 (fun x1 hS X1 hu1 => ?_)
  have F1 := F.of hS X1
  have hc1 := hu1.c
  rw [gq_lv_st hS]
  refine gr_aload_n X1 dL_law_1339 2 rfl rfl ?_
  refine gq_arg F1 hL (q := 1) rfl (by omega) 0 4 rfl rfl dL_law_1340 dL_law_1341 dL_law_1343 dL_law_1344 dL_law_1345 ?_
  have e2b : f12_keep (xs (i + 1)) (gz_sR (gz_pC M Mc)) = some (v, Mr) := by rw [gz_sRpC]; exact e2
  refine gr_callI (kb := 1) [.int (xs (i + 1))] X1 (gz_liftRI (asF := fun ad => [.ref (ad 0), .int (xs (i + 1))]) (c12_keep e2b)) rfl wm_RL_186 rfl (X1.kd gk_L1).1 ((X1.kd gk_L1).2 _ _ _ _) rfl (by decide) (by decide) rfl (Nat.le_of_ble_eq_true rfl) hc1 dL_law_1346 ?_
  refine gr_icmp_eq 1459 X1 dL_law_1349 (by decide) (fun _ => ?_) (fun g => absurd rfl g)
  exact kk x1 pf1 _ hS F1 hu1 (by rw [gz_sCpR, gz_sCpC, gz_sRpR]; exact hRR)
theorem gq_case_37 (hl9 : l.stackTraces = false) (F : gq_LF x pf l b L xs) (hL : L ≤ 3072) (hi : i + 6 ≤ L) (hu : gz_UL x (k + 1)) (hR : gp_R B pf (gz_sC M) (gz_sR M)) (kk : gq_K B x l b L xs i k) : gz_At x 1354 (gq_lv x b i) [] M := by
  obtain ⟨cu, tx, bk, us, ks, o, h⟩ := hR
  have hc := hu.c
  obtain ⟨v, Mc, Mr, e1, e2, hRR⟩ := gp_a39 h (xs (i + 1))
  refine gr_aload_n F.1 dL_law_1354 1 rfl rfl ?_
  refine gq_arg F hL (q := 1) rfl (by omega) 0 4 rfl rfl dL_law_1355 dL_law_1356 dL_law_1358 dL_law_1359 dL_law_1360 ?_
  refine gr_callI (kb := 0) [.int (xs (i + 1))] F.1 (gz_liftCI (asF := fun ad => [.ref (ad 0), .int (xs (i + 1))]) (c11_again e1)) rfl wm_RL_187 rfl (F.1.kd gk_L0).1 ((F.1.kd gk_L0).2 _ _ _ _) rfl (by decide) (by decide) rfl (Nat.le_of_ble_eq_true rfl) hc dL_law_1361 ?_
  refine gr_aload_n F.1 dL_law_1364 2 rfl rfl ?_
  refine gq_arg F hL (q := 1) rfl (by omega) 0 4 rfl rfl dL_law_1365 dL_law_1366 dL_law_1368 dL_law_1369 dL_law_1370 ?_
  have e2b : f12_again (xs (i + 1)) (gz_sR (gz_pC M Mc)) = some (v, Mr) := by rw [gz_sRpC]; exact e2
  refine gr_callI (kb := 1) [.int (xs (i + 1))] F.1 (gz_liftRI (asF := fun ad => [.ref (ad 0), .int (xs (i + 1))]) (c12_again e2b)) rfl wm_RL_190 rfl (F.1.kd gk_L1).1 ((F.1.kd gk_L1).2 _ _ _ _) rfl (by decide) (by decide) rfl (Nat.le_of_ble_eq_true rfl) hc dL_law_1371 ?_
  refine gr_icmp_eq 1459 F.1 dL_law_1374 (by decide) (fun _ => ?_) (fun g => absurd rfl g)
  exact kk x pf _ gz_StL.rf F (hu.le (by omega)) (by rw [gz_sCpR, gz_sCpC, gz_sRpR]; exact hRR)
theorem gq_case_38 (hl9 : l.stackTraces = false) (hB : B) (F : gq_LF x pf l b L xs) (hL : L ≤ 3072) (hi : i + 6 ≤ L) (hu : gz_UL x (k + 1)) (hR : gp_R B pf (gz_sC M) (gz_sR M)) (kk : gq_K B x l b L xs i k) : gz_At x 1379 (gq_lv x b i) [] M := by
  obtain ⟨cu, tx, bk, us, ks, o, h⟩ := hR
  have hc := hu.c
  obtain ⟨v, Mc, Mr, e1, e2, hRR⟩ := h.q (gp_a40 h hB (xs (i + 1)))
  refine gr_aload_n F.1 dL_law_1379 1 rfl rfl ?_
  refine gq_arg F hL (q := 1) rfl (by omega) 0 4 rfl rfl dL_law_1380 dL_law_1381 dL_law_1383 dL_law_1384 dL_law_1385 ?_
  refine gr_callI (kb := 0) [.int (xs (i + 1))] F.1 (gz_liftCI (asF := fun ad => [.ref (ad 0), .int (xs (i + 1))]) (c11_count e1)) rfl wm_RL_191 rfl (F.1.kd gk_L0).1 ((F.1.kd gk_L0).2 _ _ _ _) rfl (by decide) (by decide) rfl (Nat.le_of_ble_eq_true rfl) hc dL_law_1386 ?_
  refine gr_aload_n F.1 dL_law_1389 2 rfl rfl ?_
  refine gq_arg F hL (q := 1) rfl (by omega) 0 4 rfl rfl dL_law_1390 dL_law_1391 dL_law_1393 dL_law_1394 dL_law_1395 ?_
  have e2b : f12_count (xs (i + 1)) (gz_sR (gz_pC M Mc)) = some (v, Mr) := by rw [gz_sRpC]; exact e2
  refine gr_callI (kb := 1) [.int (xs (i + 1))] F.1 (gz_liftRI (asF := fun ad => [.ref (ad 0), .int (xs (i + 1))]) (c12_count e2b)) rfl wm_RL_194 rfl (F.1.kd gk_L1).1 ((F.1.kd gk_L1).2 _ _ _ _) rfl (by decide) (by decide) rfl (Nat.le_of_ble_eq_true rfl) hc dL_law_1396 ?_
  refine gr_icmp_eq 1459 F.1 dL_law_1399 (by decide) (fun _ => ?_) (fun g => absurd rfl g)
  exact kk x pf _ gz_StL.rf F (hu.le (by omega)) (by rw [gz_sCpR, gz_sCpC, gz_sRpR]; exact hRR)
theorem gq_case_39 (hl9 : l.stackTraces = false) (hB : B) (F : gq_LF x pf l b L xs) (hL : L ≤ 3072) (hi : i + 6 ≤ L) (hu : gz_UL x (k + 1)) (hR : gp_R B pf (gz_sC M) (gz_sR M)) (kk : gq_K B x l b L xs i k) : gz_At x 1404 (gq_lv x b i) [] M := by
  obtain ⟨cu, tx, bk, us, ks, o, h⟩ := hR
  have hc := hu.c
  obtain ⟨r, v, Mc, Mr, e1, e2, e3, q1, q2, q3⟩ := gp_a41 h.1 hB (xs (i + 1))
  have hRR : gp_R B pf Mc Mr := ⟨cu, tx, bk, us, ks, o, h.ans q1 q2 q3⟩
  have hth : Mr.1 0 5 = gq_hv r := by
    rcases e3 with ⟨rfl, g⟩ | ⟨rfl, g⟩ <;> exact g
  have hS1 : gz_StL x (gz_set x (gx_ad x) (gx_pf x) (gx_cells x + 1) (gx_slots x + 6)) := ⟨⟨_, _, _, _, rfl⟩, fun _ h => ⟨h, rfl⟩⟩
  have X1 := gq_Xs F.1 (gx_cells x + 1) (gx_slots x + 6)
  have F1 := F.of hS1 X1
  have hu1 : gz_UL (gz_set x (gx_ad x) (gx_pf x) (gx_cells x + 1) (gx_slots x + 6)) k := ⟨by show gx_cells x + 1 + 4 * k ≤ (gx_R x).cells; have := hu.1; omega, by show gx_slots x + 6 + 109 * k ≤ (gx_R x).slots; have := hu.2; omega⟩
  have hc1 := hu1.c
  refine gr_aload_n F.1 dL_law_1404 1 rfl rfl ?_
  refine gq_arg F hL (q := 1) rfl (by omega) 0 4 rfl rfl dL_law_1405 dL_law_1406 dL_law_1408 dL_law_1409 dL_law_1410 ?_
  refine gr_aload_n F.1 dL_law_1411 3 rfl rfl ?_
  refine gr_callH (st := []) (n := 3) (asF := fun ad => [.ref (ad 0), .int (xs (i + 1)), .ref (ad 2)]) [.ref (gx_ad x 0), .int (xs (i + 1)), .ref (gx_ad x 2)] F ⟨by have := hu.1; omega, by have := hu.2; omega⟩ (cL_row_ok hl9 e1) rfl (gz_in 1147 (by decide +kernel) rfl) (gz_in 1148 (by decide +kernel) rfl) (gz_in 84 (by decide +kernel) rfl) (gz_in 1149 (by decide +kernel) rfl) (by decide +kernel) rfl (by decide) (by decide) rfl (Nat.le_of_ble_eq_true rfl) dL_law_1412 ?_
  refine gr_istore ((5, .int (gq_hv r)) :: gq_lv x b i) X1 dL_law_1415 rfl (by decide) rfl ?_
  refine gr_aload_n X1 dL_law_1417 3 rfl rfl ?_
  refine gq_arg F1 hL (q := 1) rfl (by omega) 1 5 rfl rfl dL_law_1418 dL_law_1419 dL_law_1421 dL_law_1422 dL_law_1423 ?_
  have e2b : f12_row (xs (i + 1)) (gz_sR (gq_hM M Mc r)) = some (v, Mr) := by rw [gq_sRhM]; exact e2
  refine gr_callL (kb := 1) [.int (xs (i + 1))] X1 (gz_liftRL (asF := fun ad => [.ref (ad 0), .int (xs (i + 1))]) (c12_row e2b)) rfl wm_RL_197 rfl (X1.kd gk_L1).1 ((X1.kd gk_L1).2 _ _ _ _) rfl (by decide) (by decide) rfl (Nat.le_of_ble_eq_true rfl) hc1 dL_law_1424 ?_
  refine gr_lstore ((6, .long v) :: (5, .int (gq_hv r)) :: gq_lv x b i) X1 dL_law_1427 (by decide) rfl ?_
  refine gr_aload_n X1 dL_law_1429 4 rfl rfl ?_
  have e4 : f12_thrown (gz_sR (gz_pR (gq_hM M Mc r) Mr)) = some (gq_hv r, Mr) := by rw [gz_sRpR, ← hth]; rfl
  refine gr_callI (kb := 1) [] X1 (gz_liftRI (asF := fun ad => [.ref (ad 0)]) (c12_thrown e4)) rfl wm_RL_54 rfl (X1.kd gk_L1).1 ((X1.kd gk_L1).2 _ _ _ _) rfl (by decide) (by decide) rfl (Nat.le_of_ble_eq_true rfl) hc1 dL_law_1430 ?_
  refine gr_iload X1 dL_law_1433 1 rfl ?_
  refine gr_icmp_eq 1440 X1 dL_law_1435 (by decide) (fun _ => ?_) (fun g => absurd rfl g)
  refine gr_iload X1 dL_law_1440 1 rfl ?_
  have hfin : gz_At (gz_set x (gx_ad x) (gx_pf x) (gx_cells x + 1) (gx_slots x + 6)) 1456 ((6, .long v) :: (5, .int (gq_hv r)) :: gq_lv x b i) [] (gz_pR (gz_pR (gq_hM M Mc r) Mr) Mr) := by
    refine gr_goto 1459 X1 dL_law_1456 (by decide) ?_
    refine gr_sub (lv' := gq_lv x b i) [2, 3, 4, 5, 6] rfl ?_
    exact kk _ pf _ hS1 F1 hu1 (by rw [gz_sCpR, gz_sCpR, gq_sChM, gz_sRpR]; exact hRR)
  refine gr_if_ne 1456 X1 dL_law_1442 (by decide) (fun g => ?_) (fun _ => hfin)
  have hr : r = some v := by
    rcases e3 with ⟨rfl, _⟩ | ⟨e, _⟩
    · exact absurd g (by decide)
    · exact e
  subst hr
  refine gr_aload_n X1 dL_law_1445 5 rfl rfl ?_
  refine gr_iconst 0 X1 dL_law_1446 rfl ?_
  refine gr_outld X1 dL_law_1447 ?_
  refine gr_lload X1 dL_law_1448 0 rfl ?_
  refine gr_lcmpE (a := v) X1 dL_law_1450 ?_
  exact gr_if_eq 1456 X1 dL_law_1451 (by decide) (fun _ => hfin) (fun g => absurd rfl g)
end
