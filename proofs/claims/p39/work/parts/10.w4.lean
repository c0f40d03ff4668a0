theorem wf_RX12_123 : gz_FL RX12 123 RX12 "thrown" "I" := Or.inl (gz_in 1233 (by decide +kernel) rfl)
theorem wf_RX12_17 : gz_FL RX12 17 RX12 "row" "[J" := Or.inl (gz_in 1231 (by decide +kernel) rfl)
theorem wf_RX12_127 : gz_FL RX12 127 RX12 "rowMany" "I" := Or.inl (gz_in 1232 (by decide +kernel) rfl)
theorem wf_RX12_130 : gz_FL RX12 130 RX12 "typed" "I" := Or.inl (gz_in 1230 (by decide +kernel) rfl)
theorem wf_RX12_13 : gz_FL RX12 13 RX12 "text" "[B" := Or.inl (gz_in 1229 (by decide +kernel) rfl)
theorem wc_yX12_in : Cond.static yX12_in ∈ gz_TB ∧ Cond.initialized yX12_in.cls ∈ gz_TB ∧ Cond.code yX12_in cX12_in 3 (some (.boolean)) ∈ gz_TB ∧ (yX12_in.cls ≠ "java/lang/invoke/MethodHandle" ∧ yX12_in.cls ≠ "java/lang/invoke/VarHandle" ∧ (parseMethodDescriptor yX12_in.desc).map (fun d => d.parameters.length) = some 3) := ⟨gz_in 1186 (by decide +kernel) rfl, gz_in 97 (by decide +kernel) rfl, gz_in 1187 (by decide +kernel) rfl, by decide +kernel⟩
theorem wm_RX12_133 : gz_WS RX12 133 yX12_in cX12_in 3 3 (some (.boolean)) := ⟨Or.inl (gz_in 1185 (by decide +kernel) rfl), wc_yX12_in⟩
theorem wf_RX12_137 : gz_FL RX12 137 RX12 "length" "I" := Or.inl (gz_in 1235 (by decide +kernel) rfl)
theorem wf_RX12_140 : gz_FL RX12 140 RX12 "at" "I" := Or.inl (gz_in 1236 (by decide +kernel) rfl)
theorem wf_RX12_143 : gz_FL RX12 143 RX12 "wrong" "I" := Or.inl (gz_in 1237 (by decide +kernel) rfl)
theorem wf_RX12_21 : gz_FL RX12 21 RX12 "signs" "[I" := Or.inl (gz_in 1234 (by decide +kernel) rfl)
theorem wc_yX12_fine : Cond.instanceMethod yX12_fine ∈ gz_TB ∧ Cond.selects RX12 yX12_fine yX12_fine ∈ gz_TB ∧ Cond.initialized yX12_fine.cls ∈ gz_TB ∧ Cond.code yX12_fine cX12_fine 1 (some (.boolean)) ∈ gz_TB ∧ (yX12_fine.cls ≠ "java/lang/invoke/MethodHandle" ∧ yX12_fine.cls ≠ "java/lang/invoke/VarHandle" ∧ (parseMethodDescriptor yX12_fine.desc).map (fun d => d.parameters.length) = some 0) := ⟨gz_in 1171 (by decide +kernel) rfl, gz_in 34 (by decide +kernel) rfl, gz_in 97 (by decide +kernel) rfl, gz_in 1172 (by decide +kernel) rfl, by decide +kernel⟩
theorem wm_RX12_146 : gz_WV RX12 146 RX12 yX12_fine cX12_fine 1 0 (some (.boolean)) := ⟨Or.inl (gz_in 1169 (by decide +kernel) rfl), wc_yX12_fine⟩
theorem wc_yX12_here : Cond.instanceMethod yX12_here ∈ gz_TB ∧ Cond.selects RX12 yX12_here yX12_here ∈ gz_TB ∧ Cond.initialized yX12_here.cls ∈ gz_TB ∧ Cond.code yX12_here cX12_here 1 (some (.int)) ∈ gz_TB ∧ (yX12_here.cls ≠ "java/lang/invoke/MethodHandle" ∧ yX12_here.cls ≠ "java/lang/invoke/VarHandle" ∧ (parseMethodDescriptor yX12_here.desc).map (fun d => d.parameters.length) = some 0) := ⟨gz_in 1183 (by decide +kernel) rfl, gz_in 37 (by decide +kernel) rfl, gz_in 97 (by decide +kernel) rfl, gz_in 1184 (by decide +kernel) rfl, by decide +kernel⟩
theorem wm_RX12_150 : gz_WV RX12 150 RX12 yX12_here cX12_here 1 0 (some (.int)) := ⟨Or.inl (gz_in 1181 (by decide +kernel) rfl), wc_yX12_here⟩
theorem wc_yX12_passes : Cond.instanceMethod yX12_passes ∈ gz_TB ∧ Cond.selects RX12 yX12_passes yX12_passes ∈ gz_TB ∧ Cond.initialized yX12_passes.cls ∈ gz_TB ∧ Cond.code yX12_passes cX12_passes 2 (some (.boolean)) ∈ gz_TB ∧ (yX12_passes.cls ≠ "java/lang/invoke/MethodHandle" ∧ yX12_passes.cls ≠ "java/lang/invoke/VarHandle" ∧ (parseMethodDescriptor yX12_passes.desc).map (fun d => d.parameters.length) = some 1) := ⟨gz_in 1198 (by decide +kernel) rfl, gz_in 40 (by decide +kernel) rfl, gz_in 97 (by decide +kernel) rfl, gz_in 1199 (by decide +kernel) rfl, by decide +kernel⟩
theorem wm_RX12_154 : gz_WV RX12 154 RX12 yX12_passes cX12_passes 2 1 (some (.boolean)) := ⟨Or.inl (gz_in 1196 (by decide +kernel) rfl), wc_yX12_passes⟩
theorem wc_yX12_fault : Cond.instanceMethod yX12_fault ∈ gz_TB ∧ Cond.selects RX12 yX12_fault yX12_fault ∈ gz_TB ∧ Cond.initialized yX12_fault.cls ∈ gz_TB ∧ Cond.code yX12_fault cX12_fault 2 none ∈ gz_TB ∧ (yX12_fault.cls ≠ "java/lang/invoke/MethodHandle" ∧ yX12_fault.cls ≠ "java/lang/invoke/VarHandle" ∧ (parseMethodDescriptor yX12_fault.desc).map (fun d => d.parameters.length) = some 1) := ⟨gz_in 1190 (by decide +kernel) rfl, gz_in 38 (by decide +kernel) rfl, gz_in 97 (by decide +kernel) rfl, gz_in 1191 (by decide +kernel) rfl, by decide +kernel⟩
theorem wm_RX12_158 : gz_WV RX12 158 RX12 yX12_fault cX12_fault 2 1 none := ⟨Or.inl (gz_in 1188 (by decide +kernel) rfl), wc_yX12_fault⟩
theorem wc_yX12_oneOf : Cond.instanceMethod yX12_oneOf ∈ gz_TB ∧ Cond.selects RX12 yX12_oneOf yX12_oneOf ∈ gz_TB ∧ Cond.initialized yX12_oneOf.cls ∈ gz_TB ∧ Cond.code yX12_oneOf cX12_oneOf 3 (some (.int)) ∈ gz_TB ∧ (yX12_oneOf.cls ≠ "java/lang/invoke/MethodHandle" ∧ yX12_oneOf.cls ≠ "java/lang/invoke/VarHandle" ∧ (parseMethodDescriptor yX12_oneOf.desc).map (fun d => d.parameters.length) = some 2) := ⟨gz_in 1179 (by decide +kernel) rfl, gz_in 36 (by decide +kernel) rfl, gz_in 97 (by decide +kernel) rfl, gz_in 1180 (by decide +kernel) rfl, by decide +kernel⟩
theorem wm_RX12_162 : gz_WV RX12 162 RX12 yX12_oneOf cX12_oneOf 3 2 (some (.int)) := ⟨Or.inl (gz_in 1177 (by decide +kernel) rfl), wc_yX12_oneOf⟩
theorem wf_RX12_52 : gz_FL RX12 52 RX12 "behind" "[I" := Or.inl (gz_in 1248 (by decide +kernel) rfl)
theorem wf_RX12_24 : gz_FL RX12 24 RX12 "mode" "[I" := Or.inl (gz_in 1239 (by decide +kernel) rfl)
theorem wf_RX12_27 : gz_FL RX12 27 RX12 "letterMany" "[I" := Or.inl (gz_in 1240 (by decide +kernel) rfl)
theorem wf_RX12_46 : gz_FL RX12 46 RX12 "modeLetters" "[I" := Or.inl (gz_in 1246 (by decide +kernel) rfl)
theorem wf_RX12_166 : gz_FL RX12 166 RX12 "canBeNothing" "Z" := Or.inl (gz_in 1249 (by decide +kernel) rfl)
theorem wf_RX12_170 : gz_FL RX12 170 RX12 "firsts" "I" := Or.inl (gz_in 1250 (by decide +kernel) rfl)
theorem wf_RX12_173 : gz_FL RX12 173 RX12 "lasts" "I" := Or.inl (gz_in 1251 (by decide +kernel) rfl)
theorem wf_RX12_49 : gz_FL RX12 49 RX12 "taken" "[I" := Or.inl (gz_in 1247 (by decide +kernel) rfl)
theorem wf_RX12_338 : gz_FL RX12 338 RX12 "undoMany" "I" := Or.inl (gz_in 1279 (by decide +kernel) rfl)
theorem wf_RX12_110 : gz_FL RX12 110 RX12 "undos" "[I" := Or.inl (gz_in 1278 (by decide +kernel) rfl)
theorem wf_RX12_113 : gz_FL RX12 113 RX12 "then" "[I" := Or.inl (gz_in 1280 (by decide +kernel) rfl)
theorem wc_yX12_note : Cond.instanceMethod yX12_note ∈ gz_TB ∧ Cond.selects RX12 yX12_note yX12_note ∈ gz_TB ∧ Cond.initialized yX12_note.cls ∈ gz_TB ∧ Cond.code yX12_note cX12_note 2 none ∈ gz_TB ∧ (yX12_note.cls ≠ "java/lang/invoke/MethodHandle" ∧ yX12_note.cls ≠ "java/lang/invoke/VarHandle" ∧ (parseMethodDescriptor yX12_note.desc).map (fun d => d.parameters.length) = some 0) := ⟨gz_in 1421 (by decide +kernel) rfl, gz_in 51 (by decide +kernel) rfl, gz_in 97 (by decide +kernel) rfl, gz_in 1422 (by decide +kernel) rfl, by decide +kernel⟩
theorem wm_RX12_335 : gz_WV RX12 335 RX12 yX12_note cX12_note 2 0 none := ⟨Or.inl (gz_in 1419 (by decide +kernel) rfl), wc_yX12_note⟩
theorem wf_RX12_9 : gz_FL RX12 9 RX12 "now" "[I" := Or.inl (gz_in 1228 (by decide +kernel) rfl)
theorem wf_RX12_55 : gz_FL RX12 55 RX12 "drafted" "[I" := Or.inl (gz_in 1253 (by decide +kernel) rfl)
theorem wc_yX12_begin : Cond.instanceMethod yX12_begin ∈ gz_TB ∧ Cond.selects RX12 yX12_begin yX12_begin ∈ gz_TB ∧ Cond.initialized yX12_begin.cls ∈ gz_TB ∧ Cond.code yX12_begin cX12_begin 2 none ∈ gz_TB ∧ (yX12_begin.cls ≠ "java/lang/invoke/MethodHandle" ∧ yX12_begin.cls ≠ "java/lang/invoke/VarHandle" ∧ (parseMethodDescriptor yX12_begin.desc).map (fun d => d.parameters.length) = some 0) := ⟨gz_in 1409 (by decide +kernel) rfl, gz_in 48 (by decide +kernel) rfl, gz_in 97 (by decide +kernel) rfl, gz_in 1410 (by decide +kernel) rfl, by decide +kernel⟩
theorem wm_RX12_214 : gz_WV RX12 214 RX12 yX12_begin cX12_begin 2 0 none := ⟨Or.inl (gz_in 1407 (by decide +kernel) rfl), wc_yX12_begin⟩
theorem wc_yX12_wasRight : Cond.instanceMethod yX12_wasRight ∈ gz_TB ∧ Cond.selects RX12 yX12_wasRight yX12_wasRight ∈ gz_TB ∧ Cond.initialized yX12_wasRight.cls ∈ gz_TB ∧ Cond.code yX12_wasRight cX12_wasRight 1 (some (.boolean)) ∈ gz_TB ∧ (yX12_wasRight.cls ≠ "java/lang/invoke/MethodHandle" ∧ yX12_wasRight.cls ≠ "java/lang/invoke/VarHandle" ∧ (parseMethodDescriptor yX12_wasRight.desc).map (fun d => d.parameters.length) = some 0) := ⟨gz_in 1226 (by decide +kernel) rfl, gz_in 47 (by decide +kernel) rfl, gz_in 97 (by decide +kernel) rfl, gz_in 1227 (by decide +kernel) rfl, by decide +kernel⟩
theorem wm_RX12_208 : gz_WV RX12 208 RX12 yX12_wasRight cX12_wasRight 1 0 (some (.boolean)) := ⟨Or.inl (gz_in 1224 (by decide +kernel) rfl), wc_yX12_wasRight⟩
theorem wc_yX12_change : Cond.instanceMethod yX12_change ∈ gz_TB ∧ Cond.selects RX12 yX12_change yX12_change ∈ gz_TB ∧ Cond.initialized yX12_change.cls ∈ gz_TB ∧ Cond.code yX12_change cX12_change 2 none ∈ gz_TB ∧ (yX12_change.cls ≠ "java/lang/invoke/MethodHandle" ∧ yX12_change.cls ≠ "java/lang/invoke/VarHandle" ∧ (parseMethodDescriptor yX12_change.desc).map (fun d => d.parameters.length) = some 0) := ⟨gz_in 1417 (by decide +kernel) rfl, gz_in 50 (by decide +kernel) rfl, gz_in 97 (by decide +kernel) rfl, gz_in 1418 (by decide +kernel) rfl, by decide +kernel⟩
theorem wm_RX12_220 : gz_WV RX12 220 RX12 yX12_change cX12_change 2 0 none := ⟨Or.inl (gz_in 1415 (by decide +kernel) rfl), wc_yX12_change⟩
theorem wc_yX12_setLine : Cond.instanceMethod yX12_setLine ∈ gz_TB ∧ Cond.selects RX12 yX12_setLine yX12_setLine ∈ gz_TB ∧ Cond.initialized yX12_setLine.cls ∈ gz_TB ∧ Cond.code yX12_setLine cX12_setLine 3 none ∈ gz_TB ∧ (yX12_setLine.cls ≠ "java/lang/invoke/MethodHandle" ∧ yX12_setLine.cls ≠ "java/lang/invoke/VarHandle" ∧ (parseMethodDescriptor yX12_setLine.desc).map (fun d => d.parameters.length) = some 1) := ⟨gz_in 1429 (by decide +kernel) rfl, gz_in 52 (by decide +kernel) rfl, gz_in 97 (by decide +kernel) rfl, gz_in 1430 (by decide +kernel) rfl, by decide +kernel⟩
theorem wm_RX12_223 : gz_WV RX12 223 RX12 yX12_setLine cX12_setLine 3 1 none := ⟨Or.inl (gz_in 1427 (by decide +kernel) rfl), wc_yX12_setLine⟩
theorem wf_RX12_202 : gz_FL RX12 202 RX12 "ruleMany" "I" := Or.inl (gz_in 1238 (by decide +kernel) rfl)
theorem wc_yX12_lost : Cond.instanceMethod yX12_lost ∈ gz_TB ∧ Cond.selects RX12 yX12_lost yX12_lost ∈ gz_TB ∧ Cond.initialized yX12_lost.cls ∈ gz_TB ∧ Cond.code yX12_lost cX12_lost 1 (some (.int)) ∈ gz_TB ∧ (yX12_lost.cls ≠ "java/lang/invoke/MethodHandle" ∧ yX12_lost.cls ≠ "java/lang/invoke/VarHandle" ∧ (parseMethodDescriptor yX12_lost.desc).map (fun d => d.parameters.length) = some 0) := ⟨gz_in 1437 (by decide +kernel) rfl, gz_in 53 (by decide +kernel) rfl, gz_in 97 (by decide +kernel) rfl, gz_in 1438 (by decide +kernel) rfl, by decide +kernel⟩
theorem wm_RX12_226 : gz_WV RX12 226 RX12 yX12_lost cX12_lost 1 0 (some (.int)) := ⟨Or.inl (gz_in 1435 (by decide +kernel) rfl), wc_yX12_lost⟩
theorem wf_RX12_30 : gz_FL RX12 30 RX12 "act" "[I" := Or.inl (gz_in 1241 (by decide +kernel) rfl)
theorem wf_RX12_33 : gz_FL RX12 33 RX12 "digit" "[I" := Or.inl (gz_in 1242 (by decide +kernel) rfl)
theorem wf_RX12_36 : gz_FL RX12 36 RX12 "empty" "[Z" := Or.inl (gz_in 1243 (by decide +kernel) rfl)
theorem wf_RX12_40 : gz_FL RX12 40 RX12 "begins" "[I" := Or.inl (gz_in 1244 (by decide +kernel) rfl)
theorem wf_RX12_43 : gz_FL RX12 43 RX12 "ends" "[I" := Or.inl (gz_in 1245 (by decide +kernel) rfl)
theorem wf_RX12_229 : gz_FL RX12 229 RX12 "place" "I" := Or.inl (gz_in 1254 (by decide +kernel) rfl)
theorem wf_RX12_232 : gz_FL RX12 232 RX12 "stackMany" "I" := Or.inl (gz_in 1256 (by decide +kernel) rfl)
theorem wf_RX12_58 : gz_FL RX12 58 RX12 "stack" "[I" := Or.inl (gz_in 1255 (by decide +kernel) rfl)
theorem wf_RX12_235 : gz_FL RX12 235 RX12 "mostModes" "I" := Or.inl (gz_in 1257 (by decide +kernel) rfl)
theorem wf_RX12_238 : gz_FL RX12 238 RX12 "tokenMany" "I" := Or.inl (gz_in 1259 (by decide +kernel) rfl)
theorem wf_RX12_241 : gz_FL RX12 241 RX12 "readMany" "I" := Or.inl (gz_in 1260 (by decide +kernel) rfl)
theorem wl_RX12_244 : Cond.methodLink RX12 244 Lib.Math.max.name ∈ gz_TB := gz_in 1482 (by decide +kernel) rfl
theorem wc_yX12_step : Cond.instanceMethod yX12_step ∈ gz_TB ∧ Cond.selects RX12 yX12_step yX12_step ∈ gz_TB ∧ Cond.initialized yX12_step.cls ∈ gz_TB ∧ Cond.code yX12_step cX12_step 8 (some (.int)) ∈ gz_TB ∧ (yX12_step.cls ≠ "java/lang/invoke/MethodHandle" ∧ yX12_step.cls ≠ "java/lang/invoke/VarHandle" ∧ (parseMethodDescriptor yX12_step.desc).map (fun d => d.parameters.length) = some 4) := ⟨gz_in 1469 (by decide +kernel) rfl, gz_in 58 (by decide +kernel) rfl, gz_in 97 (by decide +kernel) rfl, gz_in 1470 (by decide +kernel) rfl, by decide +kernel⟩
theorem wm_RX12_250 : gz_WV RX12 250 RX12 yX12_step cX12_step 8 4 (some (.int)) := ⟨Or.inl (gz_in 1467 (by decide +kernel) rfl), wc_yX12_step⟩
theorem wc_yX12_pairOf : Cond.static yX12_pairOf ∈ gz_TB ∧ Cond.initialized yX12_pairOf.cls ∈ gz_TB ∧ Cond.code yX12_pairOf cX12_pairOf 3 (some (.int)) ∈ gz_TB ∧ (yX12_pairOf.cls ≠ "java/lang/invoke/MethodHandle" ∧ yX12_pairOf.cls ≠ "java/lang/invoke/VarHandle" ∧ (parseMethodDescriptor yX12_pairOf.desc).map (fun d => d.parameters.length) = some 3) := ⟨gz_in 1472 (by decide +kernel) rfl, gz_in 97 (by decide +kernel) rfl, gz_in 1473 (by decide +kernel) rfl, by decide +kernel⟩
theorem wm_RX12_254 : gz_WS RX12 254 yX12_pairOf cX12_pairOf 3 3 (some (.int)) := ⟨Or.inl (gz_in 1471 (by decide +kernel) rfl), wc_yX12_pairOf⟩
theorem wf_RX12_65 : gz_FL RX12 65 RX12 "often" "[I" := Or.inl (gz_in 1261 (by decide +kernel) rfl)
theorem wc_yX12_winner : Cond.instanceMethod yX12_winner ∈ gz_TB ∧ Cond.selects RX12 yX12_winner yX12_winner ∈ gz_TB ∧ Cond.initialized yX12_winner.cls ∈ gz_TB ∧ Cond.code yX12_winner cX12_winner 4 (some (.int)) ∈ gz_TB ∧ (yX12_winner.cls ≠ "java/lang/invoke/MethodHandle" ∧ yX12_winner.cls ≠ "java/lang/invoke/VarHandle" ∧ (parseMethodDescriptor yX12_winner.desc).map (fun d => d.parameters.length) = some 2) := ⟨gz_in 1476 (by decide +kernel) rfl, gz_in 59 (by decide +kernel) rfl, gz_in 97 (by decide +kernel) rfl, gz_in 1477 (by decide +kernel) rfl, by decide +kernel⟩
theorem wm_RX12_258 : gz_WV RX12 258 RX12 yX12_winner cX12_winner 4 2 (some (.int)) := ⟨Or.inl (gz_in 1474 (by decide +kernel) rfl), wc_yX12_winner⟩
theorem wf_RX12_68 : gz_FL RX12 68 RX12 "failed" "[Z" := Or.inl (gz_in 1262 (by decide +kernel) rfl)
theorem wf_RX12_71 : gz_FL RX12 71 RX12 "met" "[I" := Or.inl (gz_in 1263 (by decide +kernel) rfl)
theorem wf_RX12_61 : gz_FL RX12 61 RX12 "tokens" "[I" := Or.inl (gz_in 1258 (by decide +kernel) rfl)
theorem wc_yX12_doAct : Cond.instanceMethod yX12_doAct ∈ gz_TB ∧ Cond.selects RX12 yX12_doAct yX12_doAct ∈ gz_TB ∧ Cond.initialized yX12_doAct.cls ∈ gz_TB ∧ Cond.code yX12_doAct cX12_doAct 3 none ∈ gz_TB ∧ (yX12_doAct.cls ≠ "java/lang/invoke/MethodHandle" ∧ yX12_doAct.cls ≠ "java/lang/invoke/VarHandle" ∧ (parseMethodDescriptor yX12_doAct.desc).map (fun d => d.parameters.length) = some 1) := ⟨gz_in 1480 (by decide +kernel) rfl, gz_in 60 (by decide +kernel) rfl, gz_in 97 (by decide +kernel) rfl, gz_in 1481 (by decide +kernel) rfl, by decide +kernel⟩
theorem wm_RX12_261 : gz_WV RX12 261 RX12 yX12_doAct cX12_doAct 3 1 none := ⟨Or.inl (gz_in 1478 (by decide +kernel) rfl), wc_yX12_doAct⟩
theorem wk_RX12_64 : Cond.constant RX12 64 102400 ∈ gz_TB := gz_in 1160 (by decide +kernel) rfl
theorem wc_yX12_atFirst : Cond.instanceMethod yX12_atFirst ∈ gz_TB ∧ Cond.selects RX12 yX12_atFirst yX12_atFirst ∈ gz_TB ∧ Cond.initialized yX12_atFirst.cls ∈ gz_TB ∧ Cond.code yX12_atFirst cX12_atFirst 1 none ∈ gz_TB ∧ (yX12_atFirst.cls ≠ "java/lang/invoke/MethodHandle" ∧ yX12_atFirst.cls ≠ "java/lang/invoke/VarHandle" ∧ (parseMethodDescriptor yX12_atFirst.desc).map (fun d => d.parameters.length) = some 0) := ⟨gz_in 1457 (by decide +kernel) rfl, gz_in 55 (by decide +kernel) rfl, gz_in 97 (by decide +kernel) rfl, gz_in 1458 (by decide +kernel) rfl, by decide +kernel⟩
theorem wm_RX12_264 : gz_WV RX12 264 RX12 yX12_atFirst cX12_atFirst 1 0 none := ⟨Or.inl (gz_in 1455 (by decide +kernel) rfl), wc_yX12_atFirst⟩
theorem wc_yX12_forget : Cond.instanceMethod yX12_forget ∈ gz_TB ∧ Cond.selects RX12 yX12_forget yX12_forget ∈ gz_TB ∧ Cond.initialized yX12_forget.cls ∈ gz_TB ∧ Cond.code yX12_forget cX12_forget 2 none ∈ gz_TB ∧ (yX12_forget.cls ≠ "java/lang/invoke/MethodHandle" ∧ yX12_forget.cls ≠ "java/lang/invoke/VarHandle" ∧ (parseMethodDescriptor yX12_forget.desc).map (fun d => d.parameters.length) = some 0) := ⟨gz_in 1461 (by decide +kernel) rfl, gz_in 56 (by decide +kernel) rfl, gz_in 97 (by decide +kernel) rfl, gz_in 1462 (by decide +kernel) rfl, by decide +kernel⟩
theorem wm_RX12_267 : gz_WV RX12 267 RX12 yX12_forget cX12_forget 2 0 none := ⟨Or.inl (gz_in 1459 (by decide +kernel) rfl), wc_yX12_forget⟩
theorem wc_yX12_cutOne : Cond.instanceMethod yX12_cutOne ∈ gz_TB ∧ Cond.selects RX12 yX12_cutOne yX12_cutOne ∈ gz_TB ∧ Cond.initialized yX12_cutOne.cls ∈ gz_TB ∧ Cond.code yX12_cutOne cX12_cutOne 11 none ∈ gz_TB ∧ (yX12_cutOne.cls ≠ "java/lang/invoke/MethodHandle" ∧ yX12_cutOne.cls ≠ "java/lang/invoke/VarHandle" ∧ (parseMethodDescriptor yX12_cutOne.desc).map (fun d => d.parameters.length) = some 1) := ⟨gz_in 1465 (by decide +kernel) rfl, gz_in 57 (by decide +kernel) rfl, gz_in 97 (by decide +kernel) rfl, gz_in 1466 (by decide +kernel) rfl, by decide +kernel⟩
theorem wm_RX12_270 : gz_WV RX12 270 RX12 yX12_cutOne cX12_cutOne 11 1 none := ⟨Or.inl (gz_in 1463 (by decide +kernel) rfl), wc_yX12_cutOne⟩
theorem wc_yX12_cutAll : Cond.instanceMethod yX12_cutAll ∈ gz_TB ∧ Cond.selects RX12 yX12_cutAll yX12_cutAll ∈ gz_TB ∧ Cond.initialized yX12_cutAll.cls ∈ gz_TB ∧ Cond.code yX12_cutAll cX12_cutAll 2 none ∈ gz_TB ∧ (yX12_cutAll.cls ≠ "java/lang/invoke/MethodHandle" ∧ yX12_cutAll.cls ≠ "java/lang/invoke/VarHandle" ∧ (parseMethodDescriptor yX12_cutAll.desc).map (fun d => d.parameters.length) = some 1) := ⟨gz_in 1453 (by decide +kernel) rfl, gz_in 54 (by decide +kernel) rfl, gz_in 97 (by decide +kernel) rfl, gz_in 1454 (by decide +kernel) rfl, by decide +kernel⟩
theorem wm_RX12_274 : gz_WV RX12 274 RX12 yX12_cutAll cX12_cutAll 2 1 none := ⟨Or.inl (gz_in 1451 (by decide +kernel) rfl), wc_yX12_cutAll⟩
theorem wc_yX12_of : Cond.instanceMethod yX12_of ∈ gz_TB ∧ Cond.selects RX12 yX12_of yX12_of ∈ gz_TB ∧ Cond.initialized yX12_of.cls ∈ gz_TB ∧ Cond.code yX12_of cX12_of 3 (some (.int)) ∈ gz_TB ∧ (yX12_of.cls ≠ "java/lang/invoke/MethodHandle" ∧ yX12_of.cls ≠ "java/lang/invoke/VarHandle" ∧ (parseMethodDescriptor yX12_of.desc).map (fun d => d.parameters.length) = some 2) := ⟨gz_in 1485 (by decide +kernel) rfl, gz_in 61 (by decide +kernel) rfl, gz_in 97 (by decide +kernel) rfl, gz_in 1486 (by decide +kernel) rfl, by decide +kernel⟩
theorem wm_RX12_277 : gz_WV RX12 277 RX12 yX12_of cX12_of 3 2 (some (.int)) := ⟨Or.inl (gz_in 1483 (by decide +kernel) rfl), wc_yX12_of⟩
theorem wc_yX12_tell : Cond.instanceMethod yX12_tell ∈ gz_TB ∧ Cond.selects RX12 yX12_tell yX12_tell ∈ gz_TB ∧ Cond.initialized yX12_tell.cls ∈ gz_TB ∧ Cond.code yX12_tell cX12_tell 3 none ∈ gz_TB ∧ (yX12_tell.cls ≠ "java/lang/invoke/MethodHandle" ∧ yX12_tell.cls ≠ "java/lang/invoke/VarHandle" ∧ (parseMethodDescriptor yX12_tell.desc).map (fun d => d.parameters.length) = some 1) := ⟨gz_in 1489 (by decide +kernel) rfl, gz_in 62 (by decide +kernel) rfl, gz_in 97 (by decide +kernel) rfl, gz_in 1490 (by decide +kernel) rfl, by decide +kernel⟩
theorem wm_RX12_280 : gz_WV RX12 280 RX12 yX12_tell cX12_tell 3 1 none := ⟨Or.inl (gz_in 1487 (by decide +kernel) rfl), wc_yX12_tell⟩
theorem wc_yX12_stuckMany : Cond.instanceMethod yX12_stuckMany ∈ gz_TB ∧ Cond.selects RX12 yX12_stuckMany yX12_stuckMany ∈ gz_TB ∧ Cond.initialized yX12_stuckMany.cls ∈ gz_TB ∧ Cond.code yX12_stuckMany cX12_stuckMany 3 (some (.int)) ∈ gz_TB ∧ (yX12_stuckMany.cls ≠ "java/lang/invoke/MethodHandle" ∧ yX12_stuckMany.cls ≠ "java/lang/invoke/VarHandle" ∧ (parseMethodDescriptor yX12_stuckMany.desc).map (fun d => d.parameters.length) = some 0) := ⟨gz_in 1509 (by decide +kernel) rfl, gz_in 63 (by decide +kernel) rfl, gz_in 97 (by decide +kernel) rfl, gz_in 1510 (by decide +kernel) rfl, by decide +kernel⟩
theorem wm_RX12_284 : gz_WV RX12 284 RX12 yX12_stuckMany cX12_stuckMany 3 0 (some (.int)) := ⟨Or.inl (gz_in 1507 (by decide +kernel) rfl), wc_yX12_stuckMany⟩
theorem wf_RX12_80 : gz_FL RX12 80 RX12 "old" "[I" := Or.inl (gz_in 1266 (by decide +kernel) rfl)
theorem wf_RX12_287 : gz_FL RX12 287 RX12 "oldMany" "I" := Or.inl (gz_in 1267 (by decide +kernel) rfl)
theorem wc_yX12_isMode : Cond.static yX12_isMode ∈ gz_TB ∧ Cond.initialized yX12_isMode.cls ∈ gz_TB ∧ Cond.code yX12_isMode cX12_isMode 1 (some (.boolean)) ∈ gz_TB ∧ (yX12_isMode.cls ≠ "java/lang/invoke/MethodHandle" ∧ yX12_isMode.cls ≠ "java/lang/invoke/VarHandle" ∧ (parseMethodDescriptor yX12_isMode.desc).map (fun d => d.parameters.length) = some 1) := ⟨gz_in 1528 (by decide +kernel) rfl, gz_in 97 (by decide +kernel) rfl, gz_in 1529 (by decide +kernel) rfl, by decide +kernel⟩
theorem wm_RX12_293 : gz_WS RX12 293 yX12_isMode cX12_isMode 1 1 (some (.boolean)) := ⟨Or.inl (gz_in 1527 (by decide +kernel) rfl), wc_yX12_isMode⟩
theorem wl_RX12_297 : Cond.methodLink RX12 297 Lib.Math.min.name ∈ gz_TB := gz_in 1534 (by decide +kernel) rfl
theorem wc_yX12_readWithMemory : Cond.instanceMethod yX12_readWithMemory ∈ gz_TB ∧ Cond.selects RX12 yX12_readWithMemory yX12_readWithMemory ∈ gz_TB ∧ Cond.initialized yX12_readWithMemory.cls ∈ gz_TB ∧ Cond.code yX12_readWithMemory cX12_readWithMemory 1 (some (.int)) ∈ gz_TB ∧ (yX12_readWithMemory.cls ≠ "java/lang/invoke/MethodHandle" ∧ yX12_readWithMemory.cls ≠ "java/lang/invoke/VarHandle" ∧ (parseMethodDescriptor yX12_readWithMemory.desc).map (fun d => d.parameters.length) = some 0) := ⟨gz_in 1541 (by decide +kernel) rfl, gz_in 65 (by decide +kernel) rfl, gz_in 97 (by decide +kernel) rfl, gz_in 1542 (by decide +kernel) rfl, by decide +kernel⟩
theorem wm_RX12_300 : gz_WV RX12 300 RX12 yX12_readWithMemory cX12_readWithMemory 1 0 (some (.int)) := ⟨Or.inl (gz_in 1539 (by decide +kernel) rfl), wc_yX12_readWithMemory⟩
theorem wc_yX12_standingBehind : Cond.instanceMethod yX12_standingBehind ∈ gz_TB ∧ Cond.selects RX12 yX12_standingBehind yX12_standingBehind ∈ gz_TB ∧ Cond.initialized yX12_standingBehind.cls ∈ gz_TB ∧ Cond.code yX12_standingBehind cX12_standingBehind 6 (some (.int)) ∈ gz_TB ∧ (yX12_standingBehind.cls ≠ "java/lang/invoke/MethodHandle" ∧ yX12_standingBehind.cls ≠ "java/lang/invoke/VarHandle" ∧ (parseMethodDescriptor yX12_standingBehind.desc).map (fun d => d.parameters.length) = some 3) := ⟨gz_in 1565 (by decide +kernel) rfl, gz_in 68 (by decide +kernel) rfl, gz_in 97 (by decide +kernel) rfl, gz_in 1566 (by decide +kernel) rfl, by decide +kernel⟩
theorem wm_RX12_303 : gz_WV RX12 303 RX12 yX12_standingBehind cX12_standingBehind 6 3 (some (.int)) := ⟨Or.inl (gz_in 1563 (by decide +kernel) rfl), wc_yX12_standingBehind⟩
theorem wc_yX12_isStretch : Cond.instanceMethod yX12_isStretch ∈ gz_TB ∧ Cond.selects RX12 yX12_isStretch yX12_isStretch ∈ gz_TB ∧ Cond.initialized yX12_isStretch.cls ∈ gz_TB ∧ Cond.code yX12_isStretch cX12_isStretch 3 (some (.boolean)) ∈ gz_TB ∧ (yX12_isStretch.cls ≠ "java/lang/invoke/MethodHandle" ∧ yX12_isStretch.cls ≠ "java/lang/invoke/VarHandle" ∧ (parseMethodDescriptor yX12_isStretch.desc).map (fun d => d.parameters.length) = some 2) := ⟨gz_in 1557 (by decide +kernel) rfl, gz_in 66 (by decide +kernel) rfl, gz_in 97 (by decide +kernel) rfl, gz_in 1558 (by decide +kernel) rfl, by decide +kernel⟩
theorem wm_RX12_306 : gz_WV RX12 306 RX12 yX12_isStretch cX12_isStretch 3 2 (some (.boolean)) := ⟨Or.inl (gz_in 1555 (by decide +kernel) rfl), wc_yX12_isStretch⟩
theorem wc_yX12_doesMatch : Cond.instanceMethod yX12_doesMatch ∈ gz_TB ∧ Cond.selects RX12 yX12_doesMatch yX12_doesMatch ∈ gz_TB ∧ Cond.initialized yX12_doesMatch.cls ∈ gz_TB ∧ Cond.code yX12_doesMatch cX12_doesMatch 4 (some (.boolean)) ∈ gz_TB ∧ (yX12_doesMatch.cls ≠ "java/lang/invoke/MethodHandle" ∧ yX12_doesMatch.cls ≠ "java/lang/invoke/VarHandle" ∧ (parseMethodDescriptor yX12_doesMatch.desc).map (fun d => d.parameters.length) = some 3) := ⟨gz_in 1561 (by decide +kernel) rfl, gz_in 67 (by decide +kernel) rfl, gz_in 97 (by decide +kernel) rfl, gz_in 1562 (by decide +kernel) rfl, by decide +kernel⟩
theorem wm_RX12_310 : gz_WV RX12 310 RX12 yX12_doesMatch cX12_doesMatch 4 3 (some (.boolean)) := ⟨Or.inl (gz_in 1559 (by decide +kernel) rfl), wc_yX12_doesMatch⟩
theorem wm_RX12_313 : gz_WS RX12 313 yJ6_bitCount_0f7a4 cJ6_bitCount_0f7a4 1 1 (some (.int)) := ⟨Or.inl (gz_in 1571 (by decide +kernel) rfl), wc_yJ6_bitCount_0f7a4⟩
theorem wf_RX12_92 : gz_FL RX12 92 RX12 "isFound" "[Z" := Or.inl (gz_in 1271 (by decide +kernel) rfl)
theorem wf_RX12_83 : gz_FL RX12 83 RX12 "found" "[I" := Or.inl (gz_in 1268 (by decide +kernel) rfl)
theorem wf_RX12_319 : gz_FL RX12 319 RX12 "foundMany" "I" := Or.inl (gz_in 1272 (by decide +kernel) rfl)
theorem wf_RX12_86 : gz_FL RX12 86 RX12 "foundFrom" "[I" := Or.inl (gz_in 1269 (by decide +kernel) rfl)
theorem wf_RX12_89 : gz_FL RX12 89 RX12 "foundBy" "[I" := Or.inl (gz_in 1270 (by decide +kernel) rfl)
theorem wc_yX12_find : Cond.instanceMethod yX12_find ∈ gz_TB ∧ Cond.selects RX12 yX12_find yX12_find ∈ gz_TB ∧ Cond.initialized yX12_find.cls ∈ gz_TB ∧ Cond.code yX12_find cX12_find 4 none ∈ gz_TB ∧ (yX12_find.cls ≠ "java/lang/invoke/MethodHandle" ∧ yX12_find.cls ≠ "java/lang/invoke/VarHandle" ∧ (parseMethodDescriptor yX12_find.desc).map (fun d => d.parameters.length) = some 3) := ⟨gz_in 1582 (by decide +kernel) rfl, gz_in 70 (by decide +kernel) rfl, gz_in 97 (by decide +kernel) rfl, gz_in 1583 (by decide +kernel) rfl, by decide +kernel⟩
theorem wm_RX12_322 : gz_WV RX12 322 RX12 yX12_find cX12_find 4 3 none := ⟨Or.inl (gz_in 1580 (by decide +kernel) rfl), wc_yX12_find⟩
theorem wc_yX12_layFound : Cond.instanceMethod yX12_layFound ∈ gz_TB ∧ Cond.selects RX12 yX12_layFound yX12_layFound ∈ gz_TB ∧ Cond.initialized yX12_layFound.cls ∈ gz_TB ∧ Cond.code yX12_layFound cX12_layFound 4 none ∈ gz_TB ∧ (yX12_layFound.cls ≠ "java/lang/invoke/MethodHandle" ∧ yX12_layFound.cls ≠ "java/lang/invoke/VarHandle" ∧ (parseMethodDescriptor yX12_layFound.desc).map (fun d => d.parameters.length) = some 1) := ⟨gz_in 1578 (by decide +kernel) rfl, gz_in 69 (by decide +kernel) rfl, gz_in 97 (by decide +kernel) rfl, gz_in 1579 (by decide +kernel) rfl, by decide +kernel⟩
theorem wm_RX12_325 : gz_WV RX12 325 RX12 yX12_layFound cX12_layFound 4 1 none := ⟨Or.inl (gz_in 1576 (by decide +kernel) rfl), wc_yX12_layFound⟩
theorem wf_RX12_95 : gz_FL RX12 95 RX12 "spelt" "[I" := Or.inl (gz_in 1273 (by decide +kernel) rfl)
theorem wc_yX12_isRule : Cond.instanceMethod yX12_isRule ∈ gz_TB ∧ Cond.selects RX12 yX12_isRule yX12_isRule ∈ gz_TB ∧ Cond.initialized yX12_isRule.cls ∈ gz_TB ∧ Cond.code yX12_isRule cX12_isRule 2 (some (.boolean)) ∈ gz_TB ∧ (yX12_isRule.cls ≠ "java/lang/invoke/MethodHandle" ∧ yX12_isRule.cls ≠ "java/lang/invoke/VarHandle" ∧ (parseMethodDescriptor yX12_isRule.desc).map (fun d => d.parameters.length) = some 1) := ⟨gz_in 1590 (by decide +kernel) rfl, gz_in 71 (by decide +kernel) rfl, gz_in 97 (by decide +kernel) rfl, gz_in 1591 (by decide +kernel) rfl, by decide +kernel⟩
theorem wm_RX12_328 : gz_WV RX12 328 RX12 yX12_isRule cX12_isRule 2 1 (some (.boolean)) := ⟨Or.inl (gz_in 1588 (by decide +kernel) rfl), wc_yX12_isRule⟩
theorem wc_yX12_tellRow : Cond.instanceMethod yX12_tellRow ∈ gz_TB ∧ Cond.selects RX12 yX12_tellRow yX12_tellRow ∈ gz_TB ∧ Cond.initialized yX12_tellRow.cls ∈ gz_TB ∧ Cond.code yX12_tellRow cX12_tellRow 4 (some (.int)) ∈ gz_TB ∧ (yX12_tellRow.cls ≠ "java/lang/invoke/MethodHandle" ∧ yX12_tellRow.cls ≠ "java/lang/invoke/VarHandle" ∧ (parseMethodDescriptor yX12_tellRow.desc).map (fun d => d.parameters.length) = some 1) := ⟨gz_in 1594 (by decide +kernel) rfl, gz_in 72 (by decide +kernel) rfl, gz_in 97 (by decide +kernel) rfl, gz_in 1595 (by decide +kernel) rfl, by decide +kernel⟩
theorem wm_RX12_331 : gz_WV RX12 331 RX12 yX12_tellRow cX12_tellRow 4 1 (some (.int)) := ⟨Or.inl (gz_in 1592 (by decide +kernel) rfl), wc_yX12_tellRow⟩
theorem wf_RX12_98 : gz_FL RX12 98 RX12 "wayMany" "[I" := Or.inl (gz_in 1274 (by decide +kernel) rfl)
theorem wf_RX12_101 : gz_FL RX12 101 RX12 "wayFew" "[I" := Or.inl (gz_in 1275 (by decide +kernel) rfl)
theorem wk_RX12_334 : Cond.constant RX12 334 1000000 ∈ gz_TB := gz_in 1608 (by decide +kernel) rfl
theorem wf_RX12_104 : gz_FL RX12 104 RX12 "fewFrom" "[I" := Or.inl (gz_in 1276 (by decide +kernel) rfl)
theorem wf_RX12_107 : gz_FL RX12 107 RX12 "firstTo" "[I" := Or.inl (gz_in 1277 (by decide +kernel) rfl)
theorem wc_yX12_refusesBecome : Cond.instanceMethod yX12_refusesBecome ∈ gz_TB ∧ Cond.selects RX12 yX12_refusesBecome yX12_refusesBecome ∈ gz_TB ∧ Cond.initialized yX12_refusesBecome.cls ∈ gz_TB ∧ Cond.code yX12_refusesBecome cX12_refusesBecome 3 (some (.int)) ∈ gz_TB ∧ (yX12_refusesBecome.cls ≠ "java/lang/invoke/MethodHandle" ∧ yX12_refusesBecome.cls ≠ "java/lang/invoke/VarHandle" ∧ (parseMethodDescriptor yX12_refusesBecome.desc).map (fun d => d.parameters.length) = some 2) := ⟨gz_in 1635 (by decide +kernel) rfl, gz_in 75 (by decide +kernel) rfl, gz_in 97 (by decide +kernel) rfl, gz_in 1636 (by decide +kernel) rfl, by decide +kernel⟩
theorem wm_RX12_341 : gz_WV RX12 341 RX12 yX12_refusesBecome cX12_refusesBecome 3 2 (some (.int)) := ⟨Or.inl (gz_in 1633 (by decide +kernel) rfl), wc_yX12_refusesBecome⟩
theorem wc_yX12_refusesCome : Cond.instanceMethod yX12_refusesCome ∈ gz_TB ∧ Cond.selects RX12 yX12_refusesCome yX12_refusesCome ∈ gz_TB ∧ Cond.initialized yX12_refusesCome.cls ∈ gz_TB ∧ Cond.code yX12_refusesCome cX12_refusesCome 3 (some (.int)) ∈ gz_TB ∧ (yX12_refusesCome.cls ≠ "java/lang/invoke/MethodHandle" ∧ yX12_refusesCome.cls ≠ "java/lang/invoke/VarHandle" ∧ (parseMethodDescriptor yX12_refusesCome.desc).map (fun d => d.parameters.length) = some 2) := ⟨gz_in 1639 (by decide +kernel) rfl, gz_in 76 (by decide +kernel) rfl, gz_in 97 (by decide +kernel) rfl, gz_in 1640 (by decide +kernel) rfl, by decide +kernel⟩
theorem wm_RX12_344 : gz_WV RX12 344 RX12 yX12_refusesCome cX12_refusesCome 3 2 (some (.int)) := ⟨Or.inl (gz_in 1637 (by decide +kernel) rfl), wc_yX12_refusesCome⟩
theorem wc_yX12_refuses : Cond.instanceMethod yX12_refuses ∈ gz_TB ∧ Cond.selects RX12 yX12_refuses yX12_refuses ∈ gz_TB ∧ Cond.initialized yX12_refuses.cls ∈ gz_TB ∧ Cond.code yX12_refuses cX12_refuses 4 (some (.int)) ∈ gz_TB ∧ (yX12_refuses.cls ≠ "java/lang/invoke/MethodHandle" ∧ yX12_refuses.cls ≠ "java/lang/invoke/VarHandle" ∧ (parseMethodDescriptor yX12_refuses.desc).map (fun d => d.parameters.length) = some 3) := ⟨gz_in 1631 (by decide +kernel) rfl, gz_in 74 (by decide +kernel) rfl, gz_in 97 (by decide +kernel) rfl, gz_in 1632 (by decide +kernel) rfl, by decide +kernel⟩
theorem wm_RX12_347 : gz_WV RX12 347 RX12 yX12_refuses cX12_refuses 4 3 (some (.int)) := ⟨Or.inl (gz_in 1629 (by decide +kernel) rfl), wc_yX12_refuses⟩
theorem wc_yX12_layOld : Cond.instanceMethod yX12_layOld ∈ gz_TB ∧ Cond.selects RX12 yX12_layOld yX12_layOld ∈ gz_TB ∧ Cond.initialized yX12_layOld.cls ∈ gz_TB ∧ Cond.code yX12_layOld cX12_layOld 2 none ∈ gz_TB ∧ (yX12_layOld.cls ≠ "java/lang/invoke/MethodHandle" ∧ yX12_layOld.cls ≠ "java/lang/invoke/VarHandle" ∧ (parseMethodDescriptor yX12_layOld.desc).map (fun d => d.parameters.length) = some 0) := ⟨gz_in 1521 (by decide +kernel) rfl, gz_in 64 (by decide +kernel) rfl, gz_in 97 (by decide +kernel) rfl, gz_in 1522 (by decide +kernel) rfl, by decide +kernel⟩
theorem wm_RX12_290 : gz_WV RX12 290 RX12 yX12_layOld cX12_layOld 2 0 none := ⟨Or.inl (gz_in 1519 (by decide +kernel) rfl), wc_yX12_layOld⟩
theorem wc_yX12_doChange : Cond.instanceMethod yX12_doChange ∈ gz_TB ∧ Cond.selects RX12 yX12_doChange yX12_doChange ∈ gz_TB ∧ Cond.initialized yX12_doChange.cls ∈ gz_TB ∧ Cond.code yX12_doChange cX12_doChange 5 none ∈ gz_TB ∧ (yX12_doChange.cls ≠ "java/lang/invoke/MethodHandle" ∧ yX12_doChange.cls ≠ "java/lang/invoke/VarHandle" ∧ (parseMethodDescriptor yX12_doChange.desc).map (fun d => d.parameters.length) = some 3) := ⟨gz_in 1643 (by decide +kernel) rfl, gz_in 77 (by decide +kernel) rfl, gz_in 97 (by decide +kernel) rfl, gz_in 1644 (by decide +kernel) rfl, by decide +kernel⟩
theorem wm_RX12_350 : gz_WV RX12 350 RX12 yX12_doChange cX12_doChange 5 3 none := ⟨Or.inl (gz_in 1641 (by decide +kernel) rfl), wc_yX12_doChange⟩
theorem wc_yX12_oldAt : Cond.instanceMethod yX12_oldAt ∈ gz_TB ∧ Cond.selects RX12 yX12_oldAt yX12_oldAt ∈ gz_TB ∧ Cond.initialized yX12_oldAt.cls ∈ gz_TB ∧ Cond.code yX12_oldAt cX12_oldAt 5 (some (.int)) ∈ gz_TB ∧ (yX12_oldAt.cls ≠ "java/lang/invoke/MethodHandle" ∧ yX12_oldAt.cls ≠ "java/lang/invoke/VarHandle" ∧ (parseMethodDescriptor yX12_oldAt.desc).map (fun d => d.parameters.length) = some 1) := ⟨gz_in 1647 (by decide +kernel) rfl, gz_in 78 (by decide +kernel) rfl, gz_in 97 (by decide +kernel) rfl, gz_in 1648 (by decide +kernel) rfl, by decide +kernel⟩
theorem wm_RX12_353 : gz_WV RX12 353 RX12 yX12_oldAt cX12_oldAt 5 1 (some (.int)) := ⟨Or.inl (gz_in 1645 (by decide +kernel) rfl), wc_yX12_oldAt⟩
theorem wc_yX12_changed : Cond.instanceMethod yX12_changed ∈ gz_TB ∧ Cond.selects RX12 yX12_changed yX12_changed ∈ gz_TB ∧ Cond.initialized yX12_changed.cls ∈ gz_TB ∧ Cond.code yX12_changed cX12_changed 9 (some (.int)) ∈ gz_TB ∧ (yX12_changed.cls ≠ "java/lang/invoke/MethodHandle" ∧ yX12_changed.cls ≠ "java/lang/invoke/VarHandle" ∧ (parseMethodDescriptor yX12_changed.desc).map (fun d => d.parameters.length) = some 3) := ⟨gz_in 1627 (by decide +kernel) rfl, gz_in 73 (by decide +kernel) rfl, gz_in 97 (by decide +kernel) rfl, gz_in 1628 (by decide +kernel) rfl, by decide +kernel⟩
theorem wm_RX12_356 : gz_WV RX12 356 RX12 yX12_changed cX12_changed 9 3 (some (.int)) := ⟨Or.inl (gz_in 1625 (by decide +kernel) rfl), wc_yX12_changed⟩
theorem wf_RX12_116 : gz_FL RX12 116 RX12 "acts" "[I" := Or.inl (gz_in 1281 (by decide +kernel) rfl)
theorem wc_yX12_twoDigits : Cond.instanceMethod yX12_twoDigits ∈ gz_TB ∧ Cond.selects RX12 yX12_twoDigits yX12_twoDigits ∈ gz_TB ∧ Cond.initialized yX12_twoDigits.cls ∈ gz_TB ∧ Cond.code yX12_twoDigits cX12_twoDigits 2 (some (.int)) ∈ gz_TB ∧ (yX12_twoDigits.cls ≠ "java/lang/invoke/MethodHandle" ∧ yX12_twoDigits.cls ≠ "java/lang/invoke/VarHandle" ∧ (parseMethodDescriptor yX12_twoDigits.desc).map (fun d => d.parameters.length) = some 0) := ⟨gz_in 1671 (by decide +kernel) rfl, gz_in 80 (by decide +kernel) rfl, gz_in 97 (by decide +kernel) rfl, gz_in 1672 (by decide +kernel) rfl, by decide +kernel⟩
theorem wm_RX12_359 : gz_WV RX12 359 RX12 yX12_twoDigits cX12_twoDigits 2 0 (some (.int)) := ⟨Or.inl (gz_in 1669 (by decide +kernel) rfl), wc_yX12_twoDigits⟩
theorem wc_yX12_readAct : Cond.instanceMethod yX12_readAct ∈ gz_TB ∧ Cond.selects RX12 yX12_readAct yX12_readAct ∈ gz_TB ∧ Cond.initialized yX12_readAct.cls ∈ gz_TB ∧ Cond.code yX12_readAct cX12_readAct 4 none ∈ gz_TB ∧ (yX12_readAct.cls ≠ "java/lang/invoke/MethodHandle" ∧ yX12_readAct.cls ≠ "java/lang/invoke/VarHandle" ∧ (parseMethodDescriptor yX12_readAct.desc).map (fun d => d.parameters.length) = some 1) := ⟨gz_in 1667 (by decide +kernel) rfl, gz_in 79 (by decide +kernel) rfl, gz_in 97 (by decide +kernel) rfl, gz_in 1668 (by decide +kernel) rfl, by decide +kernel⟩
theorem wm_RX12_362 : gz_WV RX12 362 RX12 yX12_readAct cX12_readAct 4 1 none := ⟨Or.inl (gz_in 1665 (by decide +kernel) rfl), wc_yX12_readAct⟩
theorem wf_RX12_365 : gz_FL RX12 365 RX12 "drawn" "I" := Or.inl (gz_in 1282 (by decide +kernel) rfl)
theorem wk_RX12_368 : Cond.constant RX12 368 1103515245 ∈ gz_TB := gz_in 1685 (by decide +kernel) rfl
theorem wc_yX12_draw : Cond.instanceMethod yX12_draw ∈ gz_TB ∧ Cond.selects RX12 yX12_draw yX12_draw ∈ gz_TB ∧ Cond.initialized yX12_draw.cls ∈ gz_TB ∧ Cond.code yX12_draw cX12_draw 2 (some (.int)) ∈ gz_TB ∧ (yX12_draw.cls ≠ "java/lang/invoke/MethodHandle" ∧ yX12_draw.cls ≠ "java/lang/invoke/VarHandle" ∧ (parseMethodDescriptor yX12_draw.desc).map (fun d => d.parameters.length) = some 1) := ⟨gz_in 1683 (by decide +kernel) rfl, gz_in 81 (by decide +kernel) rfl, gz_in 97 (by decide +kernel) rfl, gz_in 1684 (by decide +kernel) rfl, by decide +kernel⟩
theorem wm_RX12_369 : gz_WV RX12 369 RX12 yX12_draw cX12_draw 2 1 (some (.int)) := ⟨Or.inl (gz_in 1681 (by decide +kernel) rfl), wc_yX12_draw⟩
theorem wf_RX12_77 : gz_FL RX12 77 RX12 "isKept" "[Z" := Or.inl (gz_in 1265 (by decide +kernel) rfl)
theorem wf_RX12_74 : gz_FL RX12 74 RX12 "kept" "[I" := Or.inl (gz_in 1264 (by decide +kernel) rfl)
theorem wc_yX12_allLetters : Cond.instanceMethod yX12_allLetters ∈ gz_TB ∧ Cond.selects RX12 yX12_allLetters yX12_allLetters ∈ gz_TB ∧ Cond.initialized yX12_allLetters.cls ∈ gz_TB ∧ Cond.code yX12_allLetters cX12_allLetters 3 (some (.int)) ∈ gz_TB ∧ (yX12_allLetters.cls ≠ "java/lang/invoke/MethodHandle" ∧ yX12_allLetters.cls ≠ "java/lang/invoke/VarHandle" ∧ (parseMethodDescriptor yX12_allLetters.desc).map (fun d => d.parameters.length) = some 0) := ⟨gz_in 1700 (by decide +kernel) rfl, gz_in 82 (by decide +kernel) rfl, gz_in 97 (by decide +kernel) rfl, gz_in 1701 (by decide +kernel) rfl, by decide +kernel⟩
theorem wm_RX12_372 : gz_WV RX12 372 RX12 yX12_allLetters cX12_allLetters 3 0 (some (.int)) := ⟨Or.inl (gz_in 1698 (by decide +kernel) rfl), wc_yX12_allLetters⟩
theorem wc_yX12_ruledModes : Cond.instanceMethod yX12_ruledModes ∈ gz_TB ∧ Cond.selects RX12 yX12_ruledModes yX12_ruledModes ∈ gz_TB ∧ Cond.initialized yX12_ruledModes.cls ∈ gz_TB ∧ Cond.code yX12_ruledModes cX12_ruledModes 3 (some (.int)) ∈ gz_TB ∧ (yX12_ruledModes.cls ≠ "java/lang/invoke/MethodHandle" ∧ yX12_ruledModes.cls ≠ "java/lang/invoke/VarHandle" ∧ (parseMethodDescriptor yX12_ruledModes.desc).map (fun d => d.parameters.length) = some 0) := ⟨gz_in 1704 (by decide +kernel) rfl, gz_in 83 (by decide +kernel) rfl, gz_in 97 (by decide +kernel) rfl, gz_in 1705 (by decide +kernel) rfl, by decide +kernel⟩
theorem wm_RX12_375 : gz_WV RX12 375 RX12 yX12_ruledModes cX12_ruledModes 3 0 (some (.int)) := ⟨Or.inl (gz_in 1702 (by decide +kernel) rfl), wc_yX12_ruledModes⟩
def f12_thrown (M0 : gz_M) : Option (Int32 × gz_M) := some (M0.1 0 5, M0)
set_option maxRecDepth 100000 in
def f12_in (a0 : Int32) (a1 : Int32) (a2 : Int32) (M0 : gz_M) : Option (Int32 × gz_M) := if a0 < a1 then (some (0, M0)) else (if a2 < a0 then (some (0, M0)) else (some (1, M0)))
set_option maxRecDepth 100000 in
theorem c12_in {pf : Nat → Bool} {l : Launch} {r : Int32} {M0 M' : gz_M} {a0 : Int32} {a1 : Int32} {a2 : Int32} (hf : f12_in a0 a1 a2 M0 = some (r, M')) : gz_CI l gz_cfR yX12_in cX12_in 3 1 .boolean (fun _ => [.int a0, .int a1, .int a2]) pf M0 r M' := by
  refine gz_ofI (by decide +kernel) (fun _ => Nat.le_of_ble_eq_true rfl) (fun x X hc hE => ?_)
  show gz_At x 0 [(0, .int a0), (1, .int a1), (2, .int a2)] [] M0
  unfold f12_in at hf
  refine gr_iload_n X dX12_in_0 0 rfl rfl ?_
  refine gr_iload_n X dX12_in_1 1 rfl rfl ?_
  refine gr_icmp_lt 14 X dX12_in_2 (by decide) (fun h1 => ?_) (fun h1 => ?_)
  · rw [if_pos h1] at hf
    refine gr_iconst 0 X dX12_in_14 (by decide) ?_
    exact gz_EIu hE hf rfl dX12_in_15
  · rw [if_neg h1] at hf
    refine gr_iload_n X dX12_in_5 0 rfl rfl ?_
    refine gr_iload_n X dX12_in_6 2 rfl rfl ?_
    refine gr_icmp_gt 14 X dX12_in_7 (by decide) (fun h2 => ?_) (fun h2 => ?_)
    · rw [if_pos h2] at hf
      refine gr_iconst 0 X dX12_in_14 (by decide) ?_
      exact gz_EIu hE hf rfl dX12_in_15
    · rw [if_neg h2] at hf
      refine gr_iconst 1 X dX12_in_10 (by decide) ?_
      refine gr_goto 15 X dX12_in_11 (by decide) ?_
      exact gz_EIu hE hf rfl dX12_in_15

def f12_lost (M0 : gz_M) : Option (Int32 × gz_M) := gz_lt (gz_w M0 0 5 1) fun M1 => some (0, M1)
set_option maxRecDepth 100000 in
theorem c12_lost {pf : Nat → Bool} {l : Launch} {r : Int32} {M0 M' : gz_M} (hf : f12_lost M0 = some (r, M')) : gz_CI l gz_cfR yX12_lost cX12_lost 1 1 .int (fun ad => [.ref (ad 0)]) pf M0 r M' := by
  refine gz_ofI (by decide +kernel) (fun _ => Nat.le_of_ble_eq_true rfl) (fun x X hc hE => ?_)
  show gz_At x 0 [(0, .ref (gx_ad x 0))] [] M0
  unfold f12_lost at hf
  refine gr_aload_n X dX12_lost_0 0 rfl rfl ?_
  refine gr_iconst 1 X dX12_lost_1 (by decide) ?_
  obtain ⟨M1, eM1, hf⟩ := gz_lte hf
  refine gp12_5 X wf_RX12_123 eM1 dX12_lost_2 ?_
  refine gr_iconst 0 X dX12_lost_5 (by decide) ?_
  exact gz_EIu hE hf rfl dX12_lost_6

def f12_tell (a0 : Int64) (M0 : gz_M) : Option (gz_M) := gz_ck (gz_inb (M0.1 0 4) 64) <| gz_lt (gz_wl M0 (M0.1 0 4).toNatClampNeg a0) fun M2 => gz_lt (gz_w M2 0 4 ((M2.1 0 4) + 1)) fun M3 => some M3
set_option maxRecDepth 100000 in
theorem c12_tell {pf : Nat → Bool} {l : Launch} {M0 M' : gz_M} {a0 : Int64} (hf : f12_tell a0 M0 = some M') : gz_CV l gz_cfR yX12_tell cX12_tell 3 1 (fun ad => [.ref (ad 0), .long a0]) pf M0 M' := by
  refine gz_ofV (by decide +kernel) (fun _ => Nat.le_of_ble_eq_true rfl) (fun x X hc hE => ?_)
  show gz_At x 0 [(0, .ref (gx_ad x 0)), (1, .long a0)] [] M0
  unfold f12_tell at hf
  refine gr_aload_n X dX12_tell_0 0 rfl rfl ?_
  refine gf12_3 X wf_RX12_17 dX12_tell_1 ?_
  refine gr_aload_n X dX12_tell_4 0 rfl rfl ?_
  refine gf12_4 X wf_RX12_127 dX12_tell_5 ?_
  refine gr_lload_n X dX12_tell_8 1 rfl rfl ?_
  obtain ⟨h1, hf⟩ := gz_cke hf
  obtain ⟨M2, eM2, hf⟩ := gz_lte hf
  refine gr_lastore X gz_LCR gk_R3 (gz_inp h1) eM2 dX12_tell_9 ?_
  refine gr_aload_n X dX12_tell_10 0 rfl rfl ?_
  refine gr_dup X dX12_tell_11 rfl ?_
  refine gf12_4 X wf_RX12_127 dX12_tell_12 ?_
  refine gr_iconst 1 X dX12_tell_15 (by decide) ?_
  refine gr_iadd X dX12_tell_16 ?_
  obtain ⟨M3, eM3, hf⟩ := gz_lte hf
  refine gp12_4 X wf_RX12_127 eM3 dX12_tell_17 ?_
  exact gz_EVu hE hf dX12_tell_20

def f12_sign_20 : Nat → Int32 → Int32 → gz_M → Option (Int32 × gz_M)
  | 0, _, _, _ => none
  | n + 1, x1, x2, M0 => if x2 < 0 then (some (M0.1 0 2, M0)) else (gz_lt (M0.1 0 2) fun v2 => gz_lt (gz_w M0 0 2 (v2 + 1)) fun M3 => gz_ck (gz_inb v2 80) <| gz_lt (gz_w M3 2 v2.toNatClampNeg (vp_nar .byte ((gz_shr x1 (8 * x2)).toInt8.toInt32))) fun M5 => gz_lt (x2 + (-1)) fun v6 => f12_sign_20 n x1 v6 M5)
theorem b12_sign_20 {x : gz_X} {pf : Nat → Bool} {l : Launch} {r : Int32} {M' : gz_M} (X : gz_Ok x cX12_sign RX12 3 1 gz_cfR pf l) (hc : gx_cells x ≤ (gx_R x).cells ∧ gx_slots x ≤ (gx_R x).slots) (hE : gz_EI x cX12_sign .int r M') : ∀ (n : Nat) (x1 : Int32) (x2 : Int32) (M0 : gz_M), f12_sign_20 n x1 x2 M0 = some (r, M') → gz_At x 20 [(0, .ref (gx_ad x 0)), (1, .int x1), (2, .int x2)] [] M0 := by
  intro n
  induction n with
  | zero =>
    intro x1 x2 M0  hf
    rw [f12_sign_20] at hf
    cases hf
  | succ n ih =>
    intro x1 x2 M0  hf
    rw [f12_sign_20] at hf
    refine gr_iload_n X dX12_sign_20 2 rfl rfl ?_
    refine gr_if_lt 53 X dX12_sign_21 (by decide) (fun h1 => ?_) (fun h1 => ?_)
    · rw [if_pos h1] at hf
      refine gr_aload_n X dX12_sign_53 0 rfl rfl ?_
      refine gf12_2 X wf_RX12_130 dX12_sign_54 ?_
      exact gz_EIu hE hf rfl dX12_sign_57
    · rw [if_neg h1] at hf
      refine gr_aload_n X dX12_sign_24 0 rfl rfl ?_
      refine gf12_1 X wf_RX12_13 dX12_sign_25 ?_
      refine gr_aload_n X dX12_sign_28 0 rfl rfl ?_
      refine gr_dup X dX12_sign_29 rfl ?_
      refine gf12_2 X wf_RX12_130 dX12_sign_30 ?_
      obtain ⟨v2, ev2, hf⟩ := gz_lte hf
      refine gr_top ev2 ?_
      refine gr_dup_x1 X dX12_sign_33 rfl rfl ?_
      refine gr_iconst 1 X dX12_sign_34 (by decide) ?_
      refine gr_iadd X dX12_sign_35 ?_
      obtain ⟨M3, eM3, hf⟩ := gz_lte hf
      refine gp12_2 X wf_RX12_130 eM3 dX12_sign_36 ?_
      refine gr_iload_n X dX12_sign_39 1 rfl rfl ?_
      refine gr_bipush 8 X dX12_sign_40 (by decide) ?_
      refine gr_iload_n X dX12_sign_42 2 rfl rfl ?_
      refine gr_imul X dX12_sign_43 ?_
      refine gr_ishr X dX12_sign_44 ?_
      refine gr_i2b X dX12_sign_45 ?_
      obtain ⟨h4, hf⟩ := gz_cke hf
      obtain ⟨M5, eM5, hf⟩ := gz_lte hf
      refine gr_bastore X gk_R2 (gz_inp h4) eM5 dX12_sign_46 ?_
      obtain ⟨v6, ev6, hf⟩ := gz_lte hf
      refine gr_iinc (-1) [(2, .int v6), (0, .ref (gx_ad x 0)), (1, .int x1)] X dX12_sign_47 2 rfl (by decide) ev6 (by decide) rfl ?_
      refine gr_goto 20 X dX12_sign_50 (by decide) ?_
      refine gr_sub (lv' := [(0, .ref (gx_ad x 0)), (1, .int x1), (2, .int v6)]) [1, 2, 0] rfl ?_
      exact ih _ _ _ hf

def f12_sign (a0 : Int32) (M0 : gz_M) : Option (Int32 × gz_M) := gz_lt (gz_w M0 0 5 0) fun M1 => if ((M1.1 0 2) + 4) ≤ 80 then (f12_sign_20 gz_FU a0 3 M1) else (some ((-1), M1))
set_option maxRecDepth 100000 in
theorem c12_sign {pf : Nat → Bool} {l : Launch} {r : Int32} {M0 M' : gz_M} {a0 : Int32} (hf : f12_sign a0 M0 = some (r, M')) : gz_CI l gz_cfR yX12_sign cX12_sign 3 1 .int (fun ad => [.ref (ad 0), .int a0]) pf M0 r M' := by
  refine gz_ofI (by decide +kernel) (fun _ => Nat.le_of_ble_eq_true rfl) (fun x X hc hE => ?_)
  show gz_At x 0 [(0, .ref (gx_ad x 0)), (1, .int a0)] [] M0
  unfold f12_sign at hf
  refine gr_aload_n X dX12_sign_0 0 rfl rfl ?_
  refine gr_iconst 0 X dX12_sign_1 (by decide) ?_
  obtain ⟨M1, eM1, hf⟩ := gz_lte hf
  refine gp12_5 X wf_RX12_123 eM1 dX12_sign_2 ?_
  refine gr_aload_n X dX12_sign_5 0 rfl rfl ?_
  refine gf12_2 X wf_RX12_130 dX12_sign_6 ?_
  refine gr_iconst 4 X dX12_sign_9 (by decide) ?_
  refine gr_iadd X dX12_sign_10 ?_
  refine gr_bipush 80 X dX12_sign_11 (by decide) ?_
  refine gr_icmp_le 18 X dX12_sign_13 (by decide) (fun h2 => ?_) (fun h2 => ?_)
  · rw [if_pos h2] at hf
    refine gr_iconst 3 X dX12_sign_18 (by decide) ?_
    refine gr_istore_n [(2, .int 3), (0, .ref (gx_ad x 0)), (1, .int a0)] X dX12_sign_19 rfl rfl (by decide) rfl ?_
    refine gr_sub (lv' := [(0, .ref (gx_ad x 0)), (1, .int a0), (2, .int 3)]) [1, 2, 0] rfl ?_
    exact b12_sign_20 X hc hE _ _ _ _ hf
  · rw [if_neg h2] at hf
    refine gr_iconst (-1) X dX12_sign_16 (by decide) ?_
    exact gz_EIu hE hf rfl dX12_sign_17

def f12_end (a0 : Int32) (M0 : gz_M) : Option (Int32 × gz_M) := gz_lt (gz_w M0 0 5 0) fun M1 => gz_bd2 (f12_in a0 0 (M1.1 0 2) M1) fun v2 M3 => if v2 = 0 then (some (0, M3)) else (gz_lt (gz_w M3 0 2 a0) fun M6 => some (1, M6))
set_option maxRecDepth 100000 in
theorem c12_end {pf : Nat → Bool} {l : Launch} {r : Int32} {M0 M' : gz_M} {a0 : Int32} (hf : f12_end a0 M0 = some (r, M')) : gz_CI l gz_cfR yX12_end cX12_end 2 2 .boolean (fun ad => [.ref (ad 0), .int a0]) pf M0 r M' := by
  refine gz_ofI (by decide +kernel) (fun _ => Nat.le_of_ble_eq_true rfl) (fun x X hc hE => ?_)
  show gz_At x 0 [(0, .ref (gx_ad x 0)), (1, .int a0)] [] M0
  unfold f12_end at hf
  refine gr_aload_n X dX12_end_0 0 rfl rfl ?_
  refine gr_iconst 0 X dX12_end_1 (by decide) ?_
  obtain ⟨M1, eM1, hf⟩ := gz_lte hf
  refine gp12_5 X wf_RX12_123 eM1 dX12_end_2 ?_
  refine gr_iload_n X dX12_end_5 1 rfl rfl ?_
  refine gr_iconst 0 X dX12_end_6 (by decide) ?_
  refine gr_aload_n X dX12_end_7 0 rfl rfl ?_
  refine gf12_2 X wf_RX12_130 dX12_end_8 ?_
  obtain ⟨v2, M3, q4, hf⟩ := gz_bd2e hf
  refine gr_callSI (asF := fun _ => [.int a0, .int 0, .int (M1.1 0 2)]) [.int a0, .int 0, .int (M1.1 0 2)] X (c12_in q4) rfl wm_RX12_133 rfl (by decide) (by decide) rfl (Nat.le_of_ble_eq_true rfl) hc dX12_end_11 ?_
  refine gr_if_ne 19 X dX12_end_14 (by decide) (fun h5 => ?_) (fun h5 => ?_)
  · rw [if_pos h5] at hf
    refine gr_iconst 0 X dX12_end_17 (by decide) ?_
    exact gz_EIu hE hf rfl dX12_end_18
  · rw [if_neg h5] at hf
    refine gr_aload_n X dX12_end_19 0 rfl rfl ?_
    refine gr_iload_n X dX12_end_20 1 rfl rfl ?_
    obtain ⟨M6, eM6, hf⟩ := gz_lte hf
    refine gp12_2 X wf_RX12_130 eM6 dX12_end_21 ?_
    refine gr_iconst 1 X dX12_end_24 (by decide) ?_
    exact gz_EIu hE hf rfl dX12_end_25

def f12_begin_10 : Nat → Int32 → gz_M → Option (gz_M)
  | 0, _, _ => none
  | n + 1, x1, M0 => if (M0.1 0 7) ≤ x1 then (gz_lt (gz_w M0 0 8 0) fun M2 => gz_lt (gz_w M2 0 9 (-1)) fun M3 => gz_lt (gz_w M3 0 2 0) fun M4 => some M4) else (gz_ck (gz_inb x1 80) <| gz_ck (gz_inb x1 80) <| gz_lt (gz_w M0 4 x1.toNatClampNeg ((M0.1 2 x1.toNatClampNeg) &&& 255)) fun M7 => gz_lt (x1 + 1) fun v8 => f12_begin_10 n v8 M7)
theorem b12_begin_10 {x : gz_X} {pf : Nat → Bool} {l : Launch} {M' : gz_M} (X : gz_Ok x cX12_begin RX12 2 1 gz_cfR pf l) (hc : gx_cells x ≤ (gx_R x).cells ∧ gx_slots x ≤ (gx_R x).slots) (hE : gz_EV x cX12_begin M') : ∀ (n : Nat) (x1 : Int32) (M0 : gz_M), f12_begin_10 n x1 M0 = some M' → gz_At x 10 [(0, .ref (gx_ad x 0)), (1, .int x1)] [] M0 := by
  intro n
  induction n with
  | zero =>
    intro x1 M0  hf
    rw [f12_begin_10] at hf
    cases hf
  | succ n ih =>
    intro x1 M0  hf
    rw [f12_begin_10] at hf
    refine gr_iload_n X dX12_begin_10 1 rfl rfl ?_
    refine gr_aload_n X dX12_begin_11 0 rfl rfl ?_
    refine gf12_7 X wf_RX12_137 dX12_begin_12 ?_
    refine gr_icmp_ge 40 X dX12_begin_15 (by decide) (fun h1 => ?_) (fun h1 => ?_)
    · rw [if_pos h1] at hf
      refine gr_aload_n X dX12_begin_40 0 rfl rfl ?_
      refine gr_iconst 0 X dX12_begin_41 (by decide) ?_
      obtain ⟨M2, eM2, hf⟩ := gz_lte hf
      refine gp12_8 X wf_RX12_140 eM2 dX12_begin_42 ?_
      refine gr_aload_n X dX12_begin_45 0 rfl rfl ?_
      refine gr_iconst (-1) X dX12_begin_46 (by decide) ?_
      obtain ⟨M3, eM3, hf⟩ := gz_lte hf
      refine gp12_9 X wf_RX12_143 eM3 dX12_begin_47 ?_
      refine gr_aload_n X dX12_begin_50 0 rfl rfl ?_
      refine gr_iconst 0 X dX12_begin_51 (by decide) ?_
      obtain ⟨M4, eM4, hf⟩ := gz_lte hf
      refine gp12_2 X wf_RX12_130 eM4 dX12_begin_52 ?_
      exact gz_EVu hE hf dX12_begin_55
    · rw [if_neg h1] at hf
      refine gr_aload_n X dX12_begin_18 0 rfl rfl ?_
      refine gf12_6 X wf_RX12_21 dX12_begin_19 ?_
      refine gr_iload_n X dX12_begin_22 1 rfl rfl ?_
      refine gr_aload_n X dX12_begin_23 0 rfl rfl ?_
      refine gf12_1 X wf_RX12_13 dX12_begin_24 ?_
      refine gr_iload_n X dX12_begin_27 1 rfl rfl ?_
      obtain ⟨h5, hf⟩ := gz_cke hf
      refine gr_baload X gk_R2 (gz_inp h5) dX12_begin_28 ?_
      refine gr_sipush 255 X dX12_begin_29 (by decide) ?_
      refine gr_iand X dX12_begin_32 ?_
      obtain ⟨h6, hf⟩ := gz_cke hf
      obtain ⟨M7, eM7, hf⟩ := gz_lte hf
      refine gr_iastore X gk_R4 (gz_inp h6) eM7 dX12_begin_33 ?_
      obtain ⟨v8, ev8, hf⟩ := gz_lte hf
      refine gr_iinc 1 [(1, .int v8), (0, .ref (gx_ad x 0))] X dX12_begin_34 1 rfl (by decide) ev8 (by decide) rfl ?_
      refine gr_goto 10 X dX12_begin_37 (by decide) ?_
      refine gr_sub (lv' := [(0, .ref (gx_ad x 0)), (1, .int v8)]) [1, 0] rfl ?_
      exact ih _ _ hf

def f12_begin (M0 : gz_M) : Option (gz_M) := gz_lt (gz_w M0 0 7 (M0.1 0 2)) fun M1 => f12_begin_10 gz_FU 0 M1
set_option maxRecDepth 100000 in
theorem c12_begin {pf : Nat → Bool} {l : Launch} {M0 M' : gz_M} (hf : f12_begin M0 = some M') : gz_CV l gz_cfR yX12_begin cX12_begin 2 1 (fun ad => [.ref (ad 0)]) pf M0 M' := by
  refine gz_ofV (by decide +kernel) (fun _ => Nat.le_of_ble_eq_true rfl) (fun x X hc hE => ?_)
  show gz_At x 0 [(0, .ref (gx_ad x 0))] [] M0
  unfold f12_begin at hf
  refine gr_aload_n X dX12_begin_0 0 rfl rfl ?_
  refine gr_aload_n X dX12_begin_1 0 rfl rfl ?_
  refine gf12_2 X wf_RX12_130 dX12_begin_2 ?_
  obtain ⟨M1, eM1, hf⟩ := gz_lte hf
  refine gp12_7 X wf_RX12_137 eM1 dX12_begin_5 ?_
  refine gr_iconst 0 X dX12_begin_8 (by decide) ?_
  refine gr_istore_n [(1, .int 0), (0, .ref (gx_ad x 0))] X dX12_begin_9 rfl rfl (by decide) rfl ?_
  refine gr_sub (lv' := [(0, .ref (gx_ad x 0)), (1, .int 0)]) [1, 0] rfl ?_
  exact b12_begin_10 X hc hE _ _ _ hf

def f12_here (M0 : gz_M) : Option (Int32 × gz_M) := if (M0.1 0 7) ≤ (M0.1 0 8) then (some ((-1), M0)) else (gz_ck (gz_inb (M0.1 0 8) 80) <| some (M0.1 4 (M0.1 0 8).toNatClampNeg, M0))
set_option maxRecDepth 100000 in
theorem c12_here {pf : Nat → Bool} {l : Launch} {r : Int32} {M0 M' : gz_M} (hf : f12_here M0 = some (r, M')) : gz_CI l gz_cfR yX12_here cX12_here 1 1 .int (fun ad => [.ref (ad 0)]) pf M0 r M' := by
  refine gz_ofI (by decide +kernel) (fun _ => Nat.le_of_ble_eq_true rfl) (fun x X hc hE => ?_)
  show gz_At x 0 [(0, .ref (gx_ad x 0))] [] M0
  unfold f12_here at hf
  refine gr_aload_n X dX12_here_0 0 rfl rfl ?_
  refine gf12_8 X wf_RX12_140 dX12_here_1 ?_
  refine gr_aload_n X dX12_here_4 0 rfl rfl ?_
  refine gf12_7 X wf_RX12_137 dX12_here_5 ?_
  refine gr_icmp_ge 23 X dX12_here_8 (by decide) (fun h1 => ?_) (fun h1 => ?_)
  · rw [if_pos h1] at hf
    refine gr_iconst (-1) X dX12_here_23 (by decide) ?_
    exact gz_EIu hE hf rfl dX12_here_24
  · rw [if_neg h1] at hf
    refine gr_aload_n X dX12_here_11 0 rfl rfl ?_
    refine gf12_6 X wf_RX12_21 dX12_here_12 ?_
    refine gr_aload_n X dX12_here_15 0 rfl rfl ?_
    refine gf12_8 X wf_RX12_140 dX12_here_16 ?_
    obtain ⟨h2, hf⟩ := gz_cke hf
    refine gr_iaload X gk_R4 (gz_inp h2) dX12_here_19 ?_
    refine gr_goto 24 X dX12_here_20 (by decide) ?_
    exact gz_EIu hE hf rfl dX12_here_24

def f12_fine (M0 : gz_M) : Option (Int32 × gz_M) := if (M0.1 0 9) = (-1) then (some (1, M0)) else (some (0, M0))
set_option maxRecDepth 100000 in
theorem c12_fine {pf : Nat → Bool} {l : Launch} {r : Int32} {M0 M' : gz_M} (hf : f12_fine M0 = some (r, M')) : gz_CI l gz_cfR yX12_fine cX12_fine 1 1 .boolean (fun ad => [.ref (ad 0)]) pf M0 r M' := by
  refine gz_ofI (by decide +kernel) (fun _ => Nat.le_of_ble_eq_true rfl) (fun x X hc hE => ?_)
  show gz_At x 0 [(0, .ref (gx_ad x 0))] [] M0
  unfold f12_fine at hf
  refine gr_aload_n X dX12_fine_0 0 rfl rfl ?_
  refine gf12_9 X wf_RX12_143 dX12_fine_1 ?_
  refine gr_iconst (-1) X dX12_fine_4 (by decide) ?_
  refine gr_icmp_ne 12 X dX12_fine_5 (by decide) (fun h1 => ?_) (fun h1 => ?_)
  · rw [if_pos h1] at hf
    refine gr_iconst 1 X dX12_fine_8 (by decide) ?_
    refine gr_goto 13 X dX12_fine_9 (by decide) ?_
    exact gz_EIu hE hf rfl dX12_fine_13
  · rw [if_neg h1] at hf
    refine gr_iconst 0 X dX12_fine_12 (by decide) ?_
    exact gz_EIu hE hf rfl dX12_fine_13

def f12_fault (a0 : Int32) (M0 : gz_M) : Option (gz_M) := gz_bd2 (f12_fine M0) fun v1 M2 => if v1 = 0 then (some M2) else (gz_lt (gz_w M2 0 9 a0) fun M5 => some M5)
set_option maxRecDepth 100000 in
theorem c12_fault {pf : Nat → Bool} {l : Launch} {M0 M' : gz_M} {a0 : Int32} (hf : f12_fault a0 M0 = some M') : gz_CV l gz_cfR yX12_fault cX12_fault 2 2 (fun ad => [.ref (ad 0), .int a0]) pf M0 M' := by
  refine gz_ofV (by decide +kernel) (fun _ => Nat.le_of_ble_eq_true rfl) (fun x X hc hE => ?_)
  show gz_At x 0 [(0, .ref (gx_ad x 0)), (1, .int a0)] [] M0
  unfold f12_fault at hf
  refine gr_aload_n X dX12_fault_0 0 rfl rfl ?_
  obtain ⟨v1, M2, q3, hf⟩ := gz_bd2e hf
  refine gr_callI (asF := fun ad => [.ref (ad 0)]) [] X (c12_fine q3) rfl wm_RX12_146 rfl (X.kd gk_R0).1 ((X.kd gk_R0).2 _ _ _ _) rfl (by decide) (by decide) rfl (Nat.le_of_ble_eq_true rfl) hc dX12_fault_1 ?_
  refine gr_if_eq 12 X dX12_fault_4 (by decide) (fun h4 => ?_) (fun h4 => ?_)
  · rw [if_pos h4] at hf
    exact gz_EVu hE hf dX12_fault_12
  · rw [if_neg h4] at hf
    refine gr_aload_n X dX12_fault_7 0 rfl rfl ?_
    refine gr_iload_n X dX12_fault_8 1 rfl rfl ?_
    obtain ⟨M5, eM5, hf⟩ := gz_lte hf
    refine gp12_9 X wf_RX12_143 eM5 dX12_fault_9 ?_
    exact gz_EVu hE hf dX12_fault_12

def f12_passes (a0 : Int32) (M0 : gz_M) : Option (Int32 × gz_M) := gz_bd2 (f12_fine M0) fun v1 M2 => if v1 = 0 then (some (0, M2)) else (gz_bd2 (f12_here M2) fun v5 M6 => if v5 = a0 then (gz_lt (gz_w M6 0 8 ((M6.1 0 8) + 1)) fun M9 => some (1, M9)) else (some (0, M6)))
set_option maxRecDepth 100000 in
theorem c12_passes {pf : Nat → Bool} {l : Launch} {r : Int32} {M0 M' : gz_M} {a0 : Int32} (hf : f12_passes a0 M0 = some (r, M')) : gz_CI l gz_cfR yX12_passes cX12_passes 2 2 .boolean (fun ad => [.ref (ad 0), .int a0]) pf M0 r M' := by
  refine gz_ofI (by decide +kernel) (fun _ => Nat.le_of_ble_eq_true rfl) (fun x X hc hE => ?_)
  show gz_At x 0 [(0, .ref (gx_ad x 0)), (1, .int a0)] [] M0
  unfold f12_passes at hf
  refine gr_aload_n X dX12_passes_0 0 rfl rfl ?_
  obtain ⟨v1, M2, q3, hf⟩ := gz_bd2e hf
  refine gr_callI (asF := fun ad => [.ref (ad 0)]) [] X (c12_fine q3) rfl wm_RX12_146 rfl (X.kd gk_R0).1 ((X.kd gk_R0).2 _ _ _ _) rfl (by decide) (by decide) rfl (Nat.le_of_ble_eq_true rfl) hc dX12_passes_1 ?_
  refine gr_if_eq 15 X dX12_passes_4 (by decide) (fun h4 => ?_) (fun h4 => ?_)
  · rw [if_pos h4] at hf
    refine gr_iconst 0 X dX12_passes_15 (by decide) ?_
    exact gz_EIu hE hf rfl dX12_passes_16
  · rw [if_neg h4] at hf
    refine gr_aload_n X dX12_passes_7 0 rfl rfl ?_
    obtain ⟨v5, M6, q7, hf⟩ := gz_bd2e hf
    refine gr_callI (asF := fun ad => [.ref (ad 0)]) [] X (c12_here q7) rfl wm_RX12_150 rfl (X.kd gk_R0).1 ((X.kd gk_R0).2 _ _ _ _) rfl (by decide) (by decide) rfl (Nat.le_of_ble_eq_true rfl) hc dX12_passes_8 ?_
    refine gr_iload_n X dX12_passes_11 1 rfl rfl ?_
    refine gr_icmp_eq 17 X dX12_passes_12 (by decide) (fun h8 => ?_) (fun h8 => ?_)
    · rw [if_pos h8] at hf
      refine gr_aload_n X dX12_passes_17 0 rfl rfl ?_
      refine gr_dup X dX12_passes_18 rfl ?_
      refine gf12_8 X wf_RX12_140 dX12_passes_19 ?_
      refine gr_iconst 1 X dX12_passes_22 (by decide) ?_
      refine gr_iadd X dX12_passes_23 ?_
      obtain ⟨M9, eM9, hf⟩ := gz_lte hf
      refine gp12_8 X wf_RX12_140 eM9 dX12_passes_24 ?_
      refine gr_iconst 1 X dX12_passes_27 (by decide) ?_
      exact gz_EIu hE hf rfl dX12_passes_28
    · rw [if_neg h8] at hf
      refine gr_iconst 0 X dX12_passes_15 (by decide) ?_
      exact gz_EIu hE hf rfl dX12_passes_16

def f12_need (a0 : Int32) (M0 : gz_M) : Option (gz_M) := gz_bd2 (f12_passes a0 M0) fun v1 M2 => if v1 = 0 then (gz_bd (f12_fault (M2.1 0 8) M2) fun M5 => some M5) else (some M2)
set_option maxRecDepth 100000 in
theorem c12_need {pf : Nat → Bool} {l : Launch} {M0 M' : gz_M} {a0 : Int32} (hf : f12_need a0 M0 = some M') : gz_CV l gz_cfR yX12_need cX12_need 2 3 (fun ad => [.ref (ad 0), .int a0]) pf M0 M' := by
  refine gz_ofV (by decide +kernel) (fun _ => Nat.le_of_ble_eq_true rfl) (fun x X hc hE => ?_)
  show gz_At x 0 [(0, .ref (gx_ad x 0)), (1, .int a0)] [] M0
  unfold f12_need at hf
  refine gr_aload_n X dX12_need_0 0 rfl rfl ?_
  refine gr_iload_n X dX12_need_1 1 rfl rfl ?_
  obtain ⟨v1, M2, q3, hf⟩ := gz_bd2e hf
  refine gr_callI (asF := fun ad => [.ref (ad 0), .int a0]) [.int a0] X (c12_passes q3) rfl wm_RX12_154 rfl (X.kd gk_R0).1 ((X.kd gk_R0).2 _ _ _ _) rfl (by decide) (by decide) rfl (Nat.le_of_ble_eq_true rfl) hc dX12_need_2 ?_
  refine gr_if_ne 16 X dX12_need_5 (by decide) (fun h4 => ?_) (fun h4 => ?_)
  · rw [if_pos h4] at hf
    refine gr_aload_n X dX12_need_8 0 rfl rfl ?_
    refine gr_aload_n X dX12_need_9 0 rfl rfl ?_
    refine gf12_8 X wf_RX12_140 dX12_need_10 ?_
    obtain ⟨M5, q6, hf⟩ := gz_bde hf
    refine gr_callV (asF := fun ad => [.ref (ad 0), .int (M2.1 0 8)]) [.int (M2.1 0 8)] X (c12_fault q6) rfl wm_RX12_158 rfl (X.kd gk_R0).1 ((X.kd gk_R0).2 _ _ _ _) rfl (by decide) (by decide) rfl (Nat.le_of_ble_eq_true rfl) hc dX12_need_13 ?_
    exact gz_EVu hE hf dX12_need_16
  · rw [if_neg h4] at hf
    exact gz_EVu hE hf dX12_need_16

def f12_oneOf (a0 : Int32) (a1 : Int32) (M0 : gz_M) : Option (Int32 × gz_M) := gz_bd2 (f12_fine M0) fun v1 M2 => if v1 = 0 then (some (0, M2)) else (gz_bd2 (f12_here M2) fun v5 M6 => gz_bd2 (f12_in v5 a0 ((a0 + a1) - 1) M6) fun v8 M9 => if v8 = 0 then (gz_bd (f12_fault (M9.1 0 8) M9) fun M12 => some (0, M12)) else (gz_lt (gz_w M9 0 8 ((M9.1 0 8) + 1)) fun M14 => gz_ck (gz_inb ((M14.1 0 8) - 1) 80) <| some ((M14.1 4 ((M14.1 0 8) - 1).toNatClampNeg) - a0, M14)))
set_option maxRecDepth 100000 in
theorem c12_oneOf {pf : Nat → Bool} {l : Launch} {r : Int32} {M0 M' : gz_M} {a0 : Int32} {a1 : Int32} (hf : f12_oneOf a0 a1 M0 = some (r, M')) : gz_CI l gz_cfR yX12_oneOf cX12_oneOf 3 3 .int (fun ad => [.ref (ad 0), .int a0, .int a1]) pf M0 r M' := by
  refine gz_ofI (by decide +kernel) (fun _ => Nat.le_of_ble_eq_true rfl) (fun x X hc hE => ?_)
  show gz_At x 0 [(0, .ref (gx_ad x 0)), (1, .int a0), (2, .int a1)] [] M0
  unfold f12_oneOf at hf
  refine gr_aload_n X dX12_oneOf_0 0 rfl rfl ?_
  obtain ⟨v1, M2, q3, hf⟩ := gz_bd2e hf
  refine gr_callI (asF := fun ad => [.ref (ad 0)]) [] X (c12_fine q3) rfl wm_RX12_146 rfl (X.kd gk_R0).1 ((X.kd gk_R0).2 _ _ _ _) rfl (by decide) (by decide) rfl (Nat.le_of_ble_eq_true rfl) hc dX12_oneOf_1 ?_
  refine gr_if_ne 9 X dX12_oneOf_4 (by decide) (fun h4 => ?_) (fun h4 => ?_)
  · rw [if_pos h4] at hf
    refine gr_iconst 0 X dX12_oneOf_7 (by decide) ?_
    exact gz_EIu hE hf rfl dX12_oneOf_8
  · rw [if_neg h4] at hf
    refine gr_aload_n X dX12_oneOf_9 0 rfl rfl ?_
    obtain ⟨v5, M6, q7, hf⟩ := gz_bd2e hf
    refine gr_callI (asF := fun ad => [.ref (ad 0)]) [] X (c12_here q7) rfl wm_RX12_150 rfl (X.kd gk_R0).1 ((X.kd gk_R0).2 _ _ _ _) rfl (by decide) (by decide) rfl (Nat.le_of_ble_eq_true rfl) hc dX12_oneOf_10 ?_
    refine gr_iload_n X dX12_oneOf_13 1 rfl rfl ?_
    refine gr_iload_n X dX12_oneOf_14 1 rfl rfl ?_
    refine gr_iload_n X dX12_oneOf_15 2 rfl rfl ?_
    refine gr_iadd X dX12_oneOf_16 ?_
    refine gr_iconst 1 X dX12_oneOf_17 (by decide) ?_
    refine gr_isub X dX12_oneOf_18 ?_
    obtain ⟨v8, M9, q10, hf⟩ := gz_bd2e hf
    refine gr_callSI (asF := fun _ => [.int v5, .int a0, .int ((a0 + a1) - 1)]) [.int v5, .int a0, .int ((a0 + a1) - 1)] X (c12_in q10) rfl wm_RX12_133 rfl (by decide) (by decide) rfl (Nat.le_of_ble_eq_true rfl) hc dX12_oneOf_19 ?_
    refine gr_if_ne 35 X dX12_oneOf_22 (by decide) (fun h11 => ?_) (fun h11 => ?_)
    · rw [if_pos h11] at hf
      refine gr_aload_n X dX12_oneOf_25 0 rfl rfl ?_
      refine gr_aload_n X dX12_oneOf_26 0 rfl rfl ?_
      refine gf12_8 X wf_RX12_140 dX12_oneOf_27 ?_
      obtain ⟨M12, q13, hf⟩ := gz_bde hf
      refine gr_callV (asF := fun ad => [.ref (ad 0), .int (M9.1 0 8)]) [.int (M9.1 0 8)] X (c12_fault q13) rfl wm_RX12_158 rfl (X.kd gk_R0).1 ((X.kd gk_R0).2 _ _ _ _) rfl (by decide) (by decide) rfl (Nat.le_of_ble_eq_true rfl) hc dX12_oneOf_30 ?_
      refine gr_iconst 0 X dX12_oneOf_33 (by decide) ?_
      exact gz_EIu hE hf rfl dX12_oneOf_34
    · rw [if_neg h11] at hf
      refine gr_aload_n X dX12_oneOf_35 0 rfl rfl ?_
      refine gr_dup X dX12_oneOf_36 rfl ?_
      refine gf12_8 X wf_RX12_140 dX12_oneOf_37 ?_
      refine gr_iconst 1 X dX12_oneOf_40 (by decide) ?_
      refine gr_iadd X dX12_oneOf_41 ?_
      obtain ⟨M14, eM14, hf⟩ := gz_lte hf
      refine gp12_8 X wf_RX12_140 eM14 dX12_oneOf_42 ?_
      refine gr_aload_n X dX12_oneOf_45 0 rfl rfl ?_
      refine gf12_6 X wf_RX12_21 dX12_oneOf_46 ?_
      refine gr_aload_n X dX12_oneOf_49 0 rfl rfl ?_
      refine gf12_8 X wf_RX12_140 dX12_oneOf_50 ?_
      refine gr_iconst 1 X dX12_oneOf_53 (by decide) ?_
      refine gr_isub X dX12_oneOf_54 ?_
      obtain ⟨h15, hf⟩ := gz_cke hf
      refine gr_iaload X gk_R4 (gz_inp h15) dX12_oneOf_55 ?_
      refine gr_iload_n X dX12_oneOf_56 1 rfl rfl ?_
      refine gr_isub X dX12_oneOf_57 ?_
      exact gz_EIu hE hf rfl dX12_oneOf_58

def f12_twoDigits (M0 : gz_M) : Option (Int32 × gz_M) := gz_bd2 (f12_oneOf 48 10 M0) fun v1 M2 => gz_bd2 (f12_oneOf 48 10 M2) fun v4 M5 => some ((10 * v1) + v4, M5)
set_option maxRecDepth 100000 in
theorem c12_twoDigits {pf : Nat → Bool} {l : Launch} {r : Int32} {M0 M' : gz_M} (hf : f12_twoDigits M0 = some (r, M')) : gz_CI l gz_cfR yX12_twoDigits cX12_twoDigits 2 4 .int (fun ad => [.ref (ad 0)]) pf M0 r M' := by
  refine gz_ofI (by decide +kernel) (fun _ => Nat.le_of_ble_eq_true rfl) (fun x X hc hE => ?_)
  show gz_At x 0 [(0, .ref (gx_ad x 0))] [] M0
  unfold f12_twoDigits at hf
  refine gr_aload_n X dX12_twoDigits_0 0 rfl rfl ?_
  refine gr_bipush 48 X dX12_twoDigits_1 (by decide) ?_
  refine gr_bipush 10 X dX12_twoDigits_3 (by decide) ?_
  obtain ⟨v1, M2, q3, hf⟩ := gz_bd2e hf
  refine gr_callI (asF := fun ad => [.ref (ad 0), .int 48, .int 10]) [.int 48, .int 10] X (c12_oneOf q3) rfl wm_RX12_162 rfl (X.kd gk_R0).1 ((X.kd gk_R0).2 _ _ _ _) rfl (by decide) (by decide) rfl (Nat.le_of_ble_eq_true rfl) hc dX12_twoDigits_5 ?_
  refine gr_istore_n [(1, .int v1), (0, .ref (gx_ad x 0))] X dX12_twoDigits_8 rfl rfl (by decide) rfl ?_
  refine gr_bipush 10 X dX12_twoDigits_9 (by decide) ?_
  refine gr_iload_n X dX12_twoDigits_11 0 rfl rfl ?_
  refine gr_imul X dX12_twoDigits_12 ?_
  refine gr_aload_n X dX12_twoDigits_13 1 rfl rfl ?_
  refine gr_bipush 48 X dX12_twoDigits_14 (by decide) ?_
  refine gr_bipush 10 X dX12_twoDigits_16 (by decide) ?_
  obtain ⟨v4, M5, q6, hf⟩ := gz_bd2e hf
  refine gr_callI (asF := fun ad => [.ref (ad 0), .int 48, .int 10]) [.int 48, .int 10] X (c12_oneOf q6) rfl wm_RX12_162 rfl (X.kd gk_R0).1 ((X.kd gk_R0).2 _ _ _ _) rfl (by decide) (by decide) rfl (Nat.le_of_ble_eq_true rfl) hc dX12_twoDigits_18 ?_
  refine gr_iadd X dX12_twoDigits_21 ?_
  exact gz_EIu hE hf rfl dX12_twoDigits_22

def f12_wasRight_19 (M0 : gz_M) : Option (Int32 × gz_M) := gz_bd2 (f12_fine M0) fun v1 M2 => gz_ck (gz_b01 v1) <| some (v1, M2)
theorem b12_wasRight_19 {x : gz_X} {pf : Nat → Bool} {l : Launch} {r : Int32} {M' : gz_M} (X : gz_Ok x cX12_wasRight RX12 1 3 gz_cfR pf l) (hc : gx_cells x ≤ (gx_R x).cells ∧ gx_slots x ≤ (gx_R x).slots) (hE : gz_EI x cX12_wasRight .boolean r M') : ∀ (M0 : gz_M), f12_wasRight_19 M0 = some (r, M') → gz_At x 19 [(0, .ref (gx_ad x 0))] [] M0 := by
  intro  M0  hf
  rw [f12_wasRight_19] at hf
  refine gr_aload_n X dX12_wasRight_19 0 rfl rfl ?_
  obtain ⟨v1, M2, q3, hf⟩ := gz_bd2e hf
  refine gr_callI (asF := fun ad => [.ref (ad 0)]) [] X (c12_fine q3) rfl wm_RX12_146 rfl (X.kd gk_R0).1 ((X.kd gk_R0).2 _ _ _ _) rfl (by decide) (by decide) rfl (Nat.le_of_ble_eq_true rfl) hc dX12_wasRight_20 ?_
  obtain ⟨h4, hf⟩ := gz_cke hf
  exact gz_EIu hE hf (gz_nb01 h4).1 dX12_wasRight_23

def f12_wasRight (M0 : gz_M) : Option (Int32 × gz_M) := if (M0.1 0 7) ≤ (M0.1 0 8) then (f12_wasRight_19 M0) else (gz_bd (f12_fault (M0.1 0 8) M0) fun M2 => f12_wasRight_19 M2)
set_option maxRecDepth 100000 in
theorem c12_wasRight {pf : Nat → Bool} {l : Launch} {r : Int32} {M0 M' : gz_M} (hf : f12_wasRight M0 = some (r, M')) : gz_CI l gz_cfR yX12_wasRight cX12_wasRight 1 3 .boolean (fun ad => [.ref (ad 0)]) pf M0 r M' := by
  refine gz_ofI (by decide +kernel) (fun _ => Nat.le_of_ble_eq_true rfl) (fun x X hc hE => ?_)
  show gz_At x 0 [(0, .ref (gx_ad x 0))] [] M0
  unfold f12_wasRight at hf
  refine gr_aload_n X dX12_wasRight_0 0 rfl rfl ?_
  refine gf12_8 X wf_RX12_140 dX12_wasRight_1 ?_
  refine gr_aload_n X dX12_wasRight_4 0 rfl rfl ?_
  refine gf12_7 X wf_RX12_137 dX12_wasRight_5 ?_
  refine gr_icmp_ge 19 X dX12_wasRight_8 (by decide) (fun h1 => ?_) (fun h1 => ?_)
  · rw [if_pos h1] at hf
    exact b12_wasRight_19 X hc hE  _ hf
  · rw [if_neg h1] at hf
    refine gr_aload_n X dX12_wasRight_11 0 rfl rfl ?_
    refine gr_aload_n X dX12_wasRight_12 0 rfl rfl ?_
    refine gf12_8 X wf_RX12_140 dX12_wasRight_13 ?_
    obtain ⟨M2, q3, hf⟩ := gz_bde hf
    refine gr_callV (asF := fun ad => [.ref (ad 0), .int (M0.1 0 8)]) [.int (M0.1 0 8)] X (c12_fault q3) rfl wm_RX12_158 rfl (X.kd gk_R0).1 ((X.kd gk_R0).2 _ _ _ _) rfl (by decide) (by decide) rfl (Nat.le_of_ble_eq_true rfl) hc dX12_wasRight_16 ?_
    exact b12_wasRight_19 X hc hE  _ hf

def f12_follow_3 : Nat → Int32 → Int32 → Int32 → Int32 → gz_M → Option (gz_M)
  | 0, _, _, _, _, _ => none
  | n + 1, x1, x2, x3, x4, M0 => if 10 ≤ x4 then (some M0) else (if ((gz_shr x2 x4) &&& 1) = 1 then (gz_lt ((10 * x1) + x4) fun v3 => gz_ck (gz_inb v3 40) <| gz_ck (gz_inb v3 40) <| gz_lt (gz_w M0 14 v3.toNatClampNeg ((M0.1 14 v3.toNatClampNeg) ||| x3)) fun M6 => gz_lt (x4 + 1) fun v7 => f12_follow_3 n x1 x2 x3 v7 M6) else (gz_lt (x4 + 1) fun v8 => f12_follow_3 n x1 x2 x3 v8 M0))
theorem b12_follow_3 {x : gz_X} {pf : Nat → Bool} {l : Launch} {M' : gz_M} (X : gz_Ok x cX12_follow RX12 5 1 gz_cfR pf l) (hc : gx_cells x ≤ (gx_R x).cells ∧ gx_slots x ≤ (gx_R x).slots) (hE : gz_EV x cX12_follow M') : ∀ (n : Nat) (x1 : Int32) (x2 : Int32) (x3 : Int32) (x4 : Int32) (M0 : gz_M), f12_follow_3 n x1 x2 x3 x4 M0 = some M' → gz_At x 3 [(0, .ref (gx_ad x 0)), (1, .int x1), (2, .int x2), (3, .int x3), (4, .int x4)] [] M0 := by
  intro n
  induction n with
  | zero =>
    intro x1 x2 x3 x4 M0  hf
    rw [f12_follow_3] at hf
    cases hf
  | succ n ih =>
    intro x1 x2 x3 x4 M0  hf
    rw [f12_follow_3] at hf
    refine gr_iload X dX12_follow_3 4 rfl ?_
    refine gr_bipush 10 X dX12_follow_5 (by decide) ?_
    refine gr_icmp_ge 42 X dX12_follow_7 (by decide) (fun h1 => ?_) (fun h1 => ?_)
    · rw [if_pos h1] at hf
      exact gz_EVu hE hf dX12_follow_42
    · rw [if_neg h1] at hf
      refine gr_iload_n X dX12_follow_10 2 rfl rfl ?_
      refine gr_iload X dX12_follow_11 4 rfl ?_
      refine gr_ishr X dX12_follow_13 ?_
      refine gr_iconst 1 X dX12_follow_14 (by decide) ?_
      refine gr_iand X dX12_follow_15 ?_
      refine gr_iconst 1 X dX12_follow_16 (by decide) ?_
      refine gr_icmp_ne 36 X dX12_follow_17 (by decide) (fun h2 => ?_) (fun h2 => ?_)
      · rw [if_pos h2] at hf
        refine gr_aload_n X dX12_follow_20 0 rfl rfl ?_
        refine gf12_20 X wf_RX12_52 dX12_follow_21 ?_
        refine gr_bipush 10 X dX12_follow_24 (by decide) ?_
        refine gr_iload_n X dX12_follow_26 1 rfl rfl ?_
        refine gr_imul X dX12_follow_27 ?_
        refine gr_iload X dX12_follow_28 4 rfl ?_
        refine gr_iadd X dX12_follow_30 ?_
        obtain ⟨v3, ev3, hf⟩ := gz_lte hf
        refine gr_top ev3 ?_
        refine gr_dup2 X dX12_follow_31 rfl rfl ?_
        obtain ⟨h4, hf⟩ := gz_cke hf
        refine gr_iaload X gk_R14 (gz_inp h4) dX12_follow_32 ?_
        refine gr_iload_n X dX12_follow_33 3 rfl rfl ?_
        refine gr_ior X dX12_follow_34 ?_
        obtain ⟨h5, hf⟩ := gz_cke hf
        obtain ⟨M6, eM6, hf⟩ := gz_lte hf
        refine gr_iastore X gk_R14 (gz_inp h5) eM6 dX12_follow_35 ?_
        obtain ⟨v7, ev7, hf⟩ := gz_lte hf
        refine gr_iinc 1 [(4, .int v7), (0, .ref (gx_ad x 0)), (1, .int x1), (2, .int x2), (3, .int x3)] X dX12_follow_36 4 rfl (by decide) ev7 (by decide) rfl ?_
        refine gr_goto 3 X dX12_follow_39 (by decide) ?_
        refine gr_sub (lv' := [(0, .ref (gx_ad x 0)), (1, .int x1), (2, .int x2), (3, .int x3), (4, .int v7)]) [1, 2, 3, 4, 0] rfl ?_
        exact ih _ _ _ _ _ hf
      · rw [if_neg h2] at hf
        obtain ⟨v8, ev8, hf⟩ := gz_lte hf
        refine gr_iinc 1 [(4, .int v8), (0, .ref (gx_ad x 0)), (1, .int x1), (2, .int x2), (3, .int x3)] X dX12_follow_36 4 rfl (by decide) ev8 (by decide) rfl ?_
        refine gr_goto 3 X dX12_follow_39 (by decide) ?_
        refine gr_sub (lv' := [(0, .ref (gx_ad x 0)), (1, .int x1), (2, .int x2), (3, .int x3), (4, .int v8)]) [1, 2, 3, 4, 0] rfl ?_
        exact ih _ _ _ _ _ hf

def f12_follow (a0 : Int32) (a1 : Int32) (a2 : Int32) (M0 : gz_M) : Option (gz_M) := f12_follow_3 gz_FU a0 a1 a2 0 M0
set_option maxRecDepth 100000 in
theorem c12_follow {pf : Nat → Bool} {l : Launch} {M0 M' : gz_M} {a0 : Int32} {a1 : Int32} {a2 : Int32} (hf : f12_follow a0 a1 a2 M0 = some M') : gz_CV l gz_cfR yX12_follow cX12_follow 5 1 (fun ad => [.ref (ad 0), .int a0, .int a1, .int a2]) pf M0 M' := by
  refine gz_ofV (by decide +kernel) (fun _ => Nat.le_of_ble_eq_true rfl) (fun x X hc hE => ?_)
  show gz_At x 0 [(0, .ref (gx_ad x 0)), (1, .int a0), (2, .int a1), (3, .int a2)] [] M0
  unfold f12_follow at hf
  refine gr_iconst 0 X dX12_follow_0 (by decide) ?_
  refine gr_istore [(4, .int 0), (0, .ref (gx_ad x 0)), (1, .int a0), (2, .int a1), (3, .int a2)] X dX12_follow_1 rfl (by decide) rfl ?_
  refine gr_sub (lv' := [(0, .ref (gx_ad x 0)), (1, .int a0), (2, .int a1), (3, .int a2), (4, .int 0)]) [1, 2, 3, 4, 0] rfl ?_
  exact b12_follow_3 X hc hE _ _ _ _ _ _ hf

def f12_readLetter_88 (x2 : Int32) (x3 : Int32) (x4 : Int32) (s0 : Int32) (M0 : gz_M) : Option (gz_M) := gz_lt (gz_w M0 0 22 s0) fun M1 => gz_lt (gz_w M1 0 23 (M1.1 0 22)) fun M2 => if x4 < 10 then (gz_ck (gz_inb ((10 * x2) + x4) 40) <| gz_lt (gz_w M2 13 ((10 * x2) + x4).toNatClampNeg x3) fun M5 => gz_ck (gz_inb ((10 * x2) + x4) 40) <| gz_lt (gz_w M5 14 ((10 * x2) + x4).toNatClampNeg 0) fun M7 => some M7) else (some M2)
theorem b12_readLetter_88 {x : gz_X} {pf : Nat → Bool} {l : Launch} {M' : gz_M} (X : gz_Ok x cX12_readLetter RX12 5 2 gz_cfR pf l) (hc : gx_cells x ≤ (gx_R x).cells ∧ gx_slots x ≤ (gx_R x).slots) (hE : gz_EV x cX12_readLetter M') : ∀ (x2 : Int32) (x3 : Int32) (x4 : Int32) (s0 : Int32) (M0 : gz_M), f12_readLetter_88 x2 x3 x4 s0 M0 = some M' → gz_At x 88 [(0, .ref (gx_ad x 0)), (2, .int x2), (3, .int x3), (4, .int x4)] [.int s0, .ref (gx_ad x 0)] M0 := by
  intro x2 x3 x4 s0 M0  hf
  rw [f12_readLetter_88] at hf
  obtain ⟨M1, eM1, hf⟩ := gz_lte hf
  refine gp12_22 X wf_RX12_170 eM1 dX12_readLetter_88 ?_
  refine gr_aload_n X dX12_readLetter_91 0 rfl rfl ?_
  refine gr_aload_n X dX12_readLetter_92 0 rfl rfl ?_
  refine gf12_22 X wf_RX12_170 dX12_readLetter_93 ?_
  obtain ⟨M2, eM2, hf⟩ := gz_lte hf
  refine gp12_23 X wf_RX12_173 eM2 dX12_readLetter_96 ?_
  refine gr_iload X dX12_readLetter_99 3 rfl ?_
  refine gr_bipush 10 X dX12_readLetter_101 (by decide) ?_
  refine gr_icmp_lt 107 X dX12_readLetter_103 (by decide) (fun h3 => ?_) (fun h3 => ?_)
  · rw [if_pos h3] at hf
    refine gr_aload_n X dX12_readLetter_107 0 rfl rfl ?_
    refine gf12_19 X wf_RX12_49 dX12_readLetter_108 ?_
    refine gr_bipush 10 X dX12_readLetter_111 (by decide) ?_
    refine gr_iload_n X dX12_readLetter_113 1 rfl rfl ?_
    refine gr_imul X dX12_readLetter_114 ?_
    refine gr_iload X dX12_readLetter_115 3 rfl ?_
    refine gr_iadd X dX12_readLetter_117 ?_
    refine gr_iload_n X dX12_readLetter_118 2 rfl rfl ?_
    obtain ⟨h4, hf⟩ := gz_cke hf
    obtain ⟨M5, eM5, hf⟩ := gz_lte hf
    refine gr_iastore X gk_R13 (gz_inp h4) eM5 dX12_readLetter_119 ?_
    refine gr_aload_n X dX12_readLetter_120 0 rfl rfl ?_
    refine gf12_20 X wf_RX12_52 dX12_readLetter_121 ?_
    refine gr_bipush 10 X dX12_readLetter_124 (by decide) ?_
    refine gr_iload_n X dX12_readLetter_126 1 rfl rfl ?_
    refine gr_imul X dX12_readLetter_127 ?_
    refine gr_iload X dX12_readLetter_128 3 rfl ?_
    refine gr_iadd X dX12_readLetter_130 ?_
    refine gr_iconst 0 X dX12_readLetter_131 (by decide) ?_
    obtain ⟨h6, hf⟩ := gz_cke hf
    obtain ⟨M7, eM7, hf⟩ := gz_lte hf
    refine gr_iastore X gk_R14 (gz_inp h6) eM7 dX12_readLetter_132 ?_
    exact gz_EVu hE hf dX12_readLetter_133
  · rw [if_neg h3] at hf
    exact gz_EVu hE hf dX12_readLetter_106

def f12_readLetter_28 (x1 : Int32) (x2 : Int32) (s0 : Int32) (M0 : gz_M) : Option (gz_M) := gz_lt (gz_w M0 0 8 ((M0.1 0 8) + 1)) fun M1 => gz_ck (gz_inb x1 8) <| gz_ck (gz_inb x1 8) <| gz_lt (gz_w M1 6 x1.toNatClampNeg ((M1.1 6 x1.toNatClampNeg) + 1)) fun M4 => gz_ck (gz_inb x2 4) <| gz_lt (M4.1 12 x2.toNatClampNeg) fun v6 => gz_ck (gz_inb x2 4) <| gz_ck (gz_inb x2 4) <| gz_lt (gz_w M4 12 x2.toNatClampNeg ((M4.1 12 x2.toNatClampNeg) + 1)) fun M9 => gz_ck (gz_b01 0) <| gz_lt (gz_w M9 0 21 0) fun M11 => if 10 ≤ v6 then (f12_readLetter_88 x2 s0 v6 0 M11) else (f12_readLetter_88 x2 s0 v6 (gz_shl 1 v6) M11)
theorem b12_readLetter_28 {x : gz_X} {pf : Nat → Bool} {l : Launch} {M' : gz_M} (X : gz_Ok x cX12_readLetter RX12 5 2 gz_cfR pf l) (hc : gx_cells x ≤ (gx_R x).cells ∧ gx_slots x ≤ (gx_R x).slots) (hE : gz_EV x cX12_readLetter M') : ∀ (x1 : Int32) (x2 : Int32) (s0 : Int32) (M0 : gz_M), f12_readLetter_28 x1 x2 s0 M0 = some M' → gz_At x 28 [(0, .ref (gx_ad x 0)), (1, .int x1), (2, .int x2)] [.int s0] M0 := by
  intro x1 x2 s0 M0  hf
  rw [f12_readLetter_28] at hf
  refine gr_istore_n [(3, .int s0), (0, .ref (gx_ad x 0)), (1, .int x1), (2, .int x2)] X dX12_readLetter_28 rfl rfl (by decide) rfl ?_
  refine gr_aload_n X dX12_readLetter_29 1 rfl rfl ?_
  refine gr_dup X dX12_readLetter_30 rfl ?_
  refine gf12_8 X wf_RX12_140 dX12_readLetter_31 ?_
  refine gr_iconst 1 X dX12_readLetter_34 (by decide) ?_
  refine gr_iadd X dX12_readLetter_35 ?_
  obtain ⟨M1, eM1, hf⟩ := gz_lte hf
  refine gp12_8 X wf_RX12_140 eM1 dX12_readLetter_36 ?_
  refine gr_aload_n X dX12_readLetter_39 1 rfl rfl ?_
  refine gf12_12 X wf_RX12_27 dX12_readLetter_40 ?_
  refine gr_iload_n X dX12_readLetter_43 2 rfl rfl ?_
  refine gr_dup2 X dX12_readLetter_44 rfl rfl ?_
  obtain ⟨h2, hf⟩ := gz_cke hf
  refine gr_iaload X gk_R6 (gz_inp h2) dX12_readLetter_45 ?_
  refine gr_iconst 1 X dX12_readLetter_46 (by decide) ?_
  refine gr_iadd X dX12_readLetter_47 ?_
  obtain ⟨h3, hf⟩ := gz_cke hf
  obtain ⟨M4, eM4, hf⟩ := gz_lte hf
  refine gr_iastore X gk_R6 (gz_inp h3) eM4 dX12_readLetter_48 ?_
  refine gr_aload_n X dX12_readLetter_49 1 rfl rfl ?_
  refine gf12_18 X wf_RX12_46 dX12_readLetter_50 ?_
  refine gr_iload_n X dX12_readLetter_53 3 rfl rfl ?_
  obtain ⟨h5, hf⟩ := gz_cke hf
  refine gr_iaload X gk_R12 (gz_inp h5) dX12_readLetter_54 ?_
  obtain ⟨v6, ev6, hf⟩ := gz_lte hf
  refine gr_istore [(4, .int v6), (3, .int s0), (0, .ref (gx_ad x 0)), (1, .int x1), (2, .int x2)] X dX12_readLetter_55 ev6 (by decide) rfl ?_
  refine gr_aload_n X dX12_readLetter_57 2 rfl rfl ?_
  refine gf12_18 X wf_RX12_46 dX12_readLetter_58 ?_
  refine gr_iload_n X dX12_readLetter_61 4 rfl rfl ?_
  refine gr_dup2 X dX12_readLetter_62 rfl rfl ?_
  obtain ⟨h7, hf⟩ := gz_cke hf
  refine gr_iaload X gk_R12 (gz_inp h7) dX12_readLetter_63 ?_
  refine gr_iconst 1 X dX12_readLetter_64 (by decide) ?_
  refine gr_iadd X dX12_readLetter_65 ?_
  obtain ⟨h8, hf⟩ := gz_cke hf
  obtain ⟨M9, eM9, hf⟩ := gz_lte hf
  refine gr_iastore X gk_R12 (gz_inp h8) eM9 dX12_readLetter_66 ?_
  refine gr_aload_n X dX12_readLetter_67 2 rfl rfl ?_
  refine gr_iconst 0 X dX12_readLetter_68 (by decide) ?_
  obtain ⟨h10, hf⟩ := gz_cke hf
  obtain ⟨M11, eM11, hf⟩ := gz_lte hf
  refine gp12_21 X wf_RX12_166 h10 eM11 dX12_readLetter_69 ?_
  refine gr_aload_n X dX12_readLetter_72 2 rfl rfl ?_
  refine gr_iload X dX12_readLetter_73 0 rfl ?_
  refine gr_bipush 10 X dX12_readLetter_75 (by decide) ?_
  refine gr_icmp_ge 87 X dX12_readLetter_77 (by decide) (fun h12 => ?_) (fun h12 => ?_)
  · rw [if_pos h12] at hf
    refine gr_iconst 0 X dX12_readLetter_87 (by decide) ?_
    refine gr_sub (lv' := [(0, .ref (gx_ad x 0)), (2, .int x2), (3, .int s0), (4, .int v6)]) [2, 4, 1, 0] rfl ?_
    exact b12_readLetter_88 X hc hE _ _ _ _ _ hf
  · rw [if_neg h12] at hf
    refine gr_iconst 1 X dX12_readLetter_80 (by decide) ?_
    refine gr_iload X dX12_readLetter_81 0 rfl ?_
    refine gr_ishl X dX12_readLetter_83 ?_
    refine gr_goto 88 X dX12_readLetter_84 (by decide) ?_
    refine gr_sub (lv' := [(0, .ref (gx_ad x 0)), (2, .int x2), (3, .int s0), (4, .int v6)]) [2, 4, 1, 0] rfl ?_
    exact b12_readLetter_88 X hc hE _ _ _ _ _ hf

def f12_readLetter (a0 : Int32) (M0 : gz_M) : Option (gz_M) := gz_ck (gz_inb a0 8) <| gz_lt (M0.1 5 a0.toNatClampNeg) fun v2 => gz_bd2 (f12_here M0) fun v3 M4 => if v3 = 46 then (f12_readLetter_28 a0 v2 8 M4) else (gz_bd2 (f12_here M4) fun v7 M8 => f12_readLetter_28 a0 v2 (v7 - 97) M8)
set_option maxRecDepth 100000 in
theorem c12_readLetter {pf : Nat → Bool} {l : Launch} {M0 M' : gz_M} {a0 : Int32} (hf : f12_readLetter a0 M0 = some M') : gz_CV l gz_cfR yX12_readLetter cX12_readLetter 5 2 (fun ad => [.ref (ad 0), .int a0]) pf M0 M' := by
  refine gz_ofV (by decide +kernel) (fun _ => Nat.le_of_ble_eq_true rfl) (fun x X hc hE => ?_)
  show gz_At x 0 [(0, .ref (gx_ad x 0)), (1, .int a0)] [] M0
  unfold f12_readLetter at hf
  refine gr_aload_n X dX12_readLetter_0 0 rfl rfl ?_
  refine gf12_11 X wf_RX12_24 dX12_readLetter_1 ?_
  refine gr_iload_n X dX12_readLetter_4 1 rfl rfl ?_
  obtain ⟨h1, hf⟩ := gz_cke hf
  refine gr_iaload X gk_R5 (gz_inp h1) dX12_readLetter_5 ?_
  obtain ⟨v2, ev2, hf⟩ := gz_lte hf
  refine gr_istore_n [(2, .int v2), (0, .ref (gx_ad x 0)), (1, .int a0)] X dX12_readLetter_6 ev2 rfl (by decide) rfl ?_
  refine gr_aload_n X dX12_readLetter_7 1 rfl rfl ?_
  obtain ⟨v3, M4, q5, hf⟩ := gz_bd2e hf
  refine gr_callI (asF := fun ad => [.ref (ad 0)]) [] X (c12_here q5) rfl wm_RX12_150 rfl (X.kd gk_R0).1 ((X.kd gk_R0).2 _ _ _ _) rfl (by decide) (by decide) rfl (Nat.le_of_ble_eq_true rfl) hc dX12_readLetter_8 ?_
  refine gr_bipush 46 X dX12_readLetter_11 (by decide) ?_
  refine gr_icmp_ne 21 X dX12_readLetter_13 (by decide) (fun h6 => ?_) (fun h6 => ?_)
  · rw [if_pos h6] at hf
    refine gr_bipush 8 X dX12_readLetter_16 (by decide) ?_
    refine gr_goto 28 X dX12_readLetter_18 (by decide) ?_
    refine gr_sub (lv' := [(0, .ref (gx_ad x 0)), (1, .int a0), (2, .int v2)]) [1, 2, 0] rfl ?_
    exact b12_readLetter_28 X hc hE _ _ _ _ hf
  · rw [if_neg h6] at hf
    refine gr_aload_n X dX12_readLetter_21 1 rfl rfl ?_
    obtain ⟨v7, M8, q9, hf⟩ := gz_bd2e hf
    refine gr_callI (asF := fun ad => [.ref (ad 0)]) [] X (c12_here q9) rfl wm_RX12_150 rfl (X.kd gk_R0).1 ((X.kd gk_R0).2 _ _ _ _) rfl (by decide) (by decide) rfl (Nat.le_of_ble_eq_true rfl) hc dX12_readLetter_22 ?_
    refine gr_bipush 97 X dX12_readLetter_25 (by decide) ?_
    refine gr_isub X dX12_readLetter_27 ?_
    refine gr_sub (lv' := [(0, .ref (gx_ad x 0)), (1, .int a0), (2, .int v2)]) [1, 2, 0] rfl ?_
    exact b12_readLetter_28 X hc hE _ _ _ _ hf

def f12_isPart (M0 : gz_M) : Option (Int32 × gz_M) := gz_bd2 (f12_here M0) fun v1 M2 => gz_bd2 (f12_in v1 97 104 M2) fun v4 M5 => if v4 = 0 then (gz_bd2 (f12_here M5) fun v8 M9 => if v8 = 46 then (some (1, M9)) else (gz_bd2 (f12_here M9) fun v12 M13 => if v12 = 40 then (some (1, M13)) else (some (0, M13)))) else (some (1, M5))
set_option maxRecDepth 100000 in
theorem c12_isPart {pf : Nat → Bool} {l : Launch} {r : Int32} {M0 M' : gz_M} (hf : f12_isPart M0 = some (r, M')) : gz_CI l gz_cfR yX12_isPart cX12_isPart 1 2 .boolean (fun ad => [.ref (ad 0)]) pf M0 r M' := by
  refine gz_ofI (by decide +kernel) (fun _ => Nat.le_of_ble_eq_true rfl) (fun x X hc hE => ?_)
  show gz_At x 0 [(0, .ref (gx_ad x 0))] [] M0
  unfold f12_isPart at hf
  refine gr_aload_n X dX12_isPart_0 0 rfl rfl ?_
  obtain ⟨v1, M2, q3, hf⟩ := gz_bd2e hf
  refine gr_callI (asF := fun ad => [.ref (ad 0)]) [] X (c12_here q3) rfl wm_RX12_150 rfl (X.kd gk_R0).1 ((X.kd gk_R0).2 _ _ _ _) rfl (by decide) (by decide) rfl (Nat.le_of_ble_eq_true rfl) hc dX12_isPart_1 ?_
  refine gr_bipush 97 X dX12_isPart_4 (by decide) ?_
  refine gr_bipush 104 X dX12_isPart_6 (by decide) ?_
  obtain ⟨v4, M5, q6, hf⟩ := gz_bd2e hf
  refine gr_callSI (asF := fun _ => [.int v1, .int 97, .int 104]) [.int v1, .int 97, .int 104] X (c12_in q6) rfl wm_RX12_133 rfl (by decide) (by decide) rfl (Nat.le_of_ble_eq_true rfl) hc dX12_isPart_8 ?_
  refine gr_if_ne 32 X dX12_isPart_11 (by decide) (fun h7 => ?_) (fun h7 => ?_)
  · rw [if_pos h7] at hf
    refine gr_aload_n X dX12_isPart_14 0 rfl rfl ?_
    obtain ⟨v8, M9, q10, hf⟩ := gz_bd2e hf
    refine gr_callI (asF := fun ad => [.ref (ad 0)]) [] X (c12_here q10) rfl wm_RX12_150 rfl (X.kd gk_R0).1 ((X.kd gk_R0).2 _ _ _ _) rfl (by decide) (by decide) rfl (Nat.le_of_ble_eq_true rfl) hc dX12_isPart_15 ?_
    refine gr_bipush 46 X dX12_isPart_18 (by decide) ?_
    refine gr_icmp_eq 32 X dX12_isPart_20 (by decide) (fun h11 => ?_) (fun h11 => ?_)
    · rw [if_pos h11] at hf
      refine gr_iconst 1 X dX12_isPart_32 (by decide) ?_
      refine gr_goto 37 X dX12_isPart_33 (by decide) ?_
      exact gz_EIu hE hf rfl dX12_isPart_37
    · rw [if_neg h11] at hf
      refine gr_aload_n X dX12_isPart_23 0 rfl rfl ?_
      obtain ⟨v12, M13, q14, hf⟩ := gz_bd2e hf
      refine gr_callI (asF := fun ad => [.ref (ad 0)]) [] X (c12_here q14) rfl wm_RX12_150 rfl (X.kd gk_R0).1 ((X.kd gk_R0).2 _ _ _ _) rfl (by decide) (by decide) rfl (Nat.le_of_ble_eq_true rfl) hc dX12_isPart_24 ?_
      refine gr_bipush 40 X dX12_isPart_27 (by decide) ?_
      refine gr_icmp_ne 36 X dX12_isPart_29 (by decide) (fun h15 => ?_) (fun h15 => ?_)
      · rw [if_pos h15] at hf
        refine gr_iconst 1 X dX12_isPart_32 (by decide) ?_
        refine gr_goto 37 X dX12_isPart_33 (by decide) ?_
        exact gz_EIu hE hf rfl dX12_isPart_37
      · rw [if_neg h15] at hf
        refine gr_iconst 0 X dX12_isPart_36 (by decide) ?_
        exact gz_EIu hE hf rfl dX12_isPart_37
  · rw [if_neg h7] at hf
    refine gr_iconst 1 X dX12_isPart_32 (by decide) ?_
    refine gr_goto 37 X dX12_isPart_33 (by decide) ?_
    exact gz_EIu hE hf rfl dX12_isPart_37

def f12_crowded_2 : Nat → Int32 → gz_M → Option (Int32 × gz_M)
  | 0, _, _ => none
  | n + 1, x1, M0 => if 4 ≤ x1 then (some ((-1), M0)) else (gz_ck (gz_inb x1 4) <| if (M0.1 12 x1.toNatClampNeg) ≤ 10 then (gz_lt (x1 + 1) fun v4 => f12_crowded_2 n v4 M0) else (some (x1, M0)))
theorem b12_crowded_2 {x : gz_X} {pf : Nat → Bool} {l : Launch} {r : Int32} {M' : gz_M} (X : gz_Ok x cX12_crowded RX12 2 1 gz_cfR pf l) (hc : gx_cells x ≤ (gx_R x).cells ∧ gx_slots x ≤ (gx_R x).slots) (hE : gz_EI x cX12_crowded .int r M') : ∀ (n : Nat) (x1 : Int32) (M0 : gz_M), f12_crowded_2 n x1 M0 = some (r, M') → gz_At x 2 [(0, .ref (gx_ad x 0)), (1, .int x1)] [] M0 := by
  intro n
  induction n with
  | zero =>
    intro x1 M0  hf
    rw [f12_crowded_2] at hf
    cases hf
  | succ n ih =>
    intro x1 M0  hf
    rw [f12_crowded_2] at hf
    refine gr_iload_n X dX12_crowded_2 1 rfl rfl ?_
    refine gr_iconst 4 X dX12_crowded_3 (by decide) ?_
    refine gr_icmp_ge 26 X dX12_crowded_4 (by decide) (fun h1 => ?_) (fun h1 => ?_)
    · rw [if_pos h1] at hf
      refine gr_iconst (-1) X dX12_crowded_26 (by decide) ?_
      exact gz_EIu hE hf rfl dX12_crowded_27
    · rw [if_neg h1] at hf
      refine gr_aload_n X dX12_crowded_7 0 rfl rfl ?_
      refine gf12_18 X wf_RX12_46 dX12_crowded_8 ?_
      refine gr_iload_n X dX12_crowded_11 1 rfl rfl ?_
      obtain ⟨h2, hf⟩ := gz_cke hf
      refine gr_iaload X gk_R12 (gz_inp h2) dX12_crowded_12 ?_
      refine gr_bipush 10 X dX12_crowded_13 (by decide) ?_
      refine gr_icmp_le 20 X dX12_crowded_15 (by decide) (fun h3 => ?_) (fun h3 => ?_)
      · rw [if_pos h3] at hf
        obtain ⟨v4, ev4, hf⟩ := gz_lte hf
        refine gr_iinc 1 [(1, .int v4), (0, .ref (gx_ad x 0))] X dX12_crowded_20 1 rfl (by decide) ev4 (by decide) rfl ?_
        refine gr_goto 2 X dX12_crowded_23 (by decide) ?_
        refine gr_sub (lv' := [(0, .ref (gx_ad x 0)), (1, .int v4)]) [1, 0] rfl ?_
        exact ih _ _ hf
      · rw [if_neg h3] at hf
        refine gr_iload_n X dX12_crowded_18 1 rfl rfl ?_
        exact gz_EIu hE hf rfl dX12_crowded_19

def f12_crowded (M0 : gz_M) : Option (Int32 × gz_M) := f12_crowded_2 gz_FU 0 M0
set_option maxRecDepth 100000 in
theorem c12_crowded {pf : Nat → Bool} {l : Launch} {r : Int32} {M0 M' : gz_M} (hf : f12_crowded M0 = some (r, M')) : gz_CI l gz_cfR yX12_crowded cX12_crowded 2 1 .int (fun ad => [.ref (ad 0)]) pf M0 r M' := by
  refine gz_ofI (by decide +kernel) (fun _ => Nat.le_of_ble_eq_true rfl) (fun x X hc hE => ?_)
  show gz_At x 0 [(0, .ref (gx_ad x 0))] [] M0
  unfold f12_crowded at hf
  refine gr_iconst 0 X dX12_crowded_0 (by decide) ?_
  refine gr_istore_n [(1, .int 0), (0, .ref (gx_ad x 0))] X dX12_crowded_1 rfl rfl (by decide) rfl ?_
  refine gr_sub (lv' := [(0, .ref (gx_ad x 0)), (1, .int 0)]) [1, 0] rfl ?_
  exact b12_crowded_2 X hc hE _ _ _ hf

def f12_note_51 : Nat → Int32 → gz_M → Option (gz_M)
  | 0, _, _ => none
  | n + 1, x1, M0 => if 106 ≤ x1 then (gz_lt (gz_w M0 0 51 ((M0.1 0 51) + 1)) fun M2 => some M2) else (gz_ck (gz_inb x1 106) <| gz_ck (gz_inb ((106 * (M0.1 0 51)) + x1) 1060) <| gz_lt (gz_w M0 33 ((106 * (M0.1 0 51)) + x1).toNatClampNeg (M0.1 34 x1.toNatClampNeg)) fun M5 => gz_lt (x1 + 1) fun v6 => f12_note_51 n v6 M5)
theorem b12_note_51 {x : gz_X} {pf : Nat → Bool} {l : Launch} {M' : gz_M} (X : gz_Ok x cX12_note RX12 2 1 gz_cfR pf l) (hc : gx_cells x ≤ (gx_R x).cells ∧ gx_slots x ≤ (gx_R x).slots) (hE : gz_EV x cX12_note M') : ∀ (n : Nat) (x1 : Int32) (M0 : gz_M), f12_note_51 n x1 M0 = some M' → gz_At x 51 [(0, .ref (gx_ad x 0)), (1, .int x1)] [] M0 := by
  intro n
  induction n with
  | zero =>
    intro x1 M0  hf
    rw [f12_note_51] at hf
    cases hf
  | succ n ih =>
    intro x1 M0  hf
    rw [f12_note_51] at hf
    refine gr_iload_n X dX12_note_51 1 rfl rfl ?_
    refine gr_bipush 106 X dX12_note_52 (by decide) ?_
    refine gr_icmp_ge 83 X dX12_note_54 (by decide) (fun h1 => ?_) (fun h1 => ?_)
    · rw [if_pos h1] at hf
      refine gr_aload_n X dX12_note_83 0 rfl rfl ?_
      refine gr_dup X dX12_note_84 rfl ?_
      refine gf12_51 X wf_RX12_338 dX12_note_85 ?_
      refine gr_iconst 1 X dX12_note_88 (by decide) ?_
      refine gr_iadd X dX12_note_89 ?_
      obtain ⟨M2, eM2, hf⟩ := gz_lte hf
      refine gp12_51 X wf_RX12_338 eM2 dX12_note_90 ?_
      exact gz_EVu hE hf dX12_note_93
    · rw [if_neg h1] at hf
      refine gr_aload_n X dX12_note_57 0 rfl rfl ?_
      refine gf12_50 X wf_RX12_110 dX12_note_58 ?_
      refine gr_bipush 106 X dX12_note_61 (by decide) ?_
      refine gr_aload_n X dX12_note_63 0 rfl rfl ?_
      refine gf12_51 X wf_RX12_338 dX12_note_64 ?_
      refine gr_imul X dX12_note_67 ?_
      refine gr_iload_n X dX12_note_68 1 rfl rfl ?_
      refine gr_iadd X dX12_note_69 ?_
      refine gr_aload_n X dX12_note_70 0 rfl rfl ?_
      refine gf12_52 X wf_RX12_113 dX12_note_71 ?_
      refine gr_iload_n X dX12_note_74 1 rfl rfl ?_
      obtain ⟨h3, hf⟩ := gz_cke hf
      refine gr_iaload X gk_R34 (gz_inp h3) dX12_note_75 ?_
      obtain ⟨h4, hf⟩ := gz_cke hf
      obtain ⟨M5, eM5, hf⟩ := gz_lte hf
      refine gr_iastore X gk_R33 (gz_inp h4) eM5 dX12_note_76 ?_
      obtain ⟨v6, ev6, hf⟩ := gz_lte hf
      refine gr_iinc 1 [(1, .int v6), (0, .ref (gx_ad x 0))] X dX12_note_77 1 rfl (by decide) ev6 (by decide) rfl ?_
      refine gr_goto 51 X dX12_note_80 (by decide) ?_
      refine gr_sub (lv' := [(0, .ref (gx_ad x 0)), (1, .int v6)]) [1, 0] rfl ?_
      exact ih _ _ hf

def f12_note_11 : Nat → Int32 → gz_M → Option (gz_M)
  | 0, _, _ => none
  | n + 1, x1, M0 => if 954 ≤ x1 then (gz_lt (gz_w M0 0 51 ((M0.1 0 51) - 1)) fun M2 => f12_note_51 gz_FU 0 M2) else (gz_ck (gz_inb (x1 + 106) 1060) <| gz_ck (gz_inb x1 1060) <| gz_lt (gz_w M0 33 x1.toNatClampNeg (M0.1 33 (x1 + 106).toNatClampNeg)) fun M5 => gz_lt (x1 + 1) fun v6 => f12_note_11 n v6 M5)
theorem b12_note_11 {x : gz_X} {pf : Nat → Bool} {l : Launch} {M' : gz_M} (X : gz_Ok x cX12_note RX12 2 1 gz_cfR pf l) (hc : gx_cells x ≤ (gx_R x).cells ∧ gx_slots x ≤ (gx_R x).slots) (hE : gz_EV x cX12_note M') : ∀ (n : Nat) (x1 : Int32) (M0 : gz_M), f12_note_11 n x1 M0 = some M' → gz_At x 11 [(0, .ref (gx_ad x 0)), (1, .int x1)] [] M0 := by
  intro n
  induction n with
  | zero =>
    intro x1 M0  hf
    rw [f12_note_11] at hf
    cases hf
  | succ n ih =>
    intro x1 M0  hf
    rw [f12_note_11] at hf
    refine gr_iload_n X dX12_note_11 1 rfl rfl ?_
    refine gr_sipush 954 X dX12_note_12 (by decide) ?_
    refine gr_icmp_ge 39 X dX12_note_15 (by decide) (fun h1 => ?_) (fun h1 => ?_)
    · rw [if_pos h1] at hf
      refine gr_aload_n X dX12_note_39 0 rfl rfl ?_
      refine gr_dup X dX12_note_40 rfl ?_
      refine gf12_51 X wf_RX12_338 dX12_note_41 ?_
      refine gr_iconst 1 X dX12_note_44 (by decide) ?_
      refine gr_isub X dX12_note_45 ?_
      obtain ⟨M2, eM2, hf⟩ := gz_lte hf
      refine gp12_51 X wf_RX12_338 eM2 dX12_note_46 ?_
      refine gr_iconst 0 X dX12_note_49 (by decide) ?_
      refine gr_istore_n [(1, .int 0), (0, .ref (gx_ad x 0))] X dX12_note_50 rfl rfl (by decide) rfl ?_
      refine gr_sub (lv' := [(0, .ref (gx_ad x 0)), (1, .int 0)]) [1, 0] rfl ?_
      exact b12_note_51 X hc hE _ _ _ hf
    · rw [if_neg h1] at hf
      refine gr_aload_n X dX12_note_18 0 rfl rfl ?_
      refine gf12_50 X wf_RX12_110 dX12_note_19 ?_
      refine gr_iload_n X dX12_note_22 1 rfl rfl ?_
      refine gr_aload_n X dX12_note_23 0 rfl rfl ?_
      refine gf12_50 X wf_RX12_110 dX12_note_24 ?_
      refine gr_iload_n X dX12_note_27 1 rfl rfl ?_
      refine gr_bipush 106 X dX12_note_28 (by decide) ?_
      refine gr_iadd X dX12_note_30 ?_
      obtain ⟨h3, hf⟩ := gz_cke hf
      refine gr_iaload X gk_R33 (gz_inp h3) dX12_note_31 ?_
      obtain ⟨h4, hf⟩ := gz_cke hf
      obtain ⟨M5, eM5, hf⟩ := gz_lte hf
      refine gr_iastore X gk_R33 (gz_inp h4) eM5 dX12_note_32 ?_
      obtain ⟨v6, ev6, hf⟩ := gz_lte hf
      refine gr_iinc 1 [(1, .int v6), (0, .ref (gx_ad x 0))] X dX12_note_33 1 rfl (by decide) ev6 (by decide) rfl ?_
      refine gr_goto 11 X dX12_note_36 (by decide) ?_
      refine gr_sub (lv' := [(0, .ref (gx_ad x 0)), (1, .int v6)]) [1, 0] rfl ?_
      exact ih _ _ hf

def f12_note (M0 : gz_M) : Option (gz_M) := if (M0.1 0 51) = 10 then (f12_note_11 gz_FU 0 M0) else (f12_note_51 gz_FU 0 M0)
set_option maxRecDepth 100000 in
theorem c12_note {pf : Nat → Bool} {l : Launch} {M0 M' : gz_M} (hf : f12_note M0 = some M') : gz_CV l gz_cfR yX12_note cX12_note 2 1 (fun ad => [.ref (ad 0)]) pf M0 M' := by
  refine gz_ofV (by decide +kernel) (fun _ => Nat.le_of_ble_eq_true rfl) (fun x X hc hE => ?_)
  show gz_At x 0 [(0, .ref (gx_ad x 0))] [] M0
  unfold f12_note at hf
  refine gr_aload_n X dX12_note_0 0 rfl rfl ?_
  refine gf12_51 X wf_RX12_338 dX12_note_1 ?_
  refine gr_bipush 10 X dX12_note_4 (by decide) ?_
  refine gr_icmp_ne 49 X dX12_note_6 (by decide) (fun h1 => ?_) (fun h1 => ?_)
  · rw [if_pos h1] at hf
    refine gr_iconst 0 X dX12_note_9 (by decide) ?_
    refine gr_istore_n [(1, .int 0), (0, .ref (gx_ad x 0))] X dX12_note_10 rfl rfl (by decide) rfl ?_
    refine gr_sub (lv' := [(0, .ref (gx_ad x 0)), (1, .int 0)]) [1, 0] rfl ?_
    exact b12_note_11 X hc hE _ _ _ hf
  · rw [if_neg h1] at hf
    refine gr_iconst 0 X dX12_note_49 (by decide) ?_
    refine gr_istore_n [(1, .int 0), (0, .ref (gx_ad x 0))] X dX12_note_50 rfl rfl (by decide) rfl ?_
    refine gr_sub (lv' := [(0, .ref (gx_ad x 0)), (1, .int 0)]) [1, 0] rfl ?_
    exact b12_note_51 X hc hE _ _ _ hf

def f12_change_2 : Nat → Int32 → gz_M → Option (gz_M)
  | 0, _, _ => none
  | n + 1, x1, M0 => if 106 ≤ x1 then (gz_bd (f12_note M0) fun M2 => some M2) else (gz_ck (gz_inb x1 106) <| gz_ck (gz_inb x1 106) <| gz_lt (gz_w M0 34 x1.toNatClampNeg (M0.1 1 x1.toNatClampNeg)) fun M6 => gz_lt (x1 + 1) fun v7 => f12_change_2 n v7 M6)
theorem b12_change_2 {x : gz_X} {pf : Nat → Bool} {l : Launch} {M' : gz_M} (X : gz_Ok x cX12_change RX12 2 2 gz_cfR pf l) (hc : gx_cells x ≤ (gx_R x).cells ∧ gx_slots x ≤ (gx_R x).slots) (hE : gz_EV x cX12_change M') : ∀ (n : Nat) (x1 : Int32) (M0 : gz_M), f12_change_2 n x1 M0 = some M' → gz_At x 2 [(0, .ref (gx_ad x 0)), (1, .int x1)] [] M0 := by
  intro n
  induction n with
  | zero =>
    intro x1 M0  hf
    rw [f12_change_2] at hf
    cases hf
  | succ n ih =>
    intro x1 M0  hf
    rw [f12_change_2] at hf
    refine gr_iload_n X dX12_change_2 1 rfl rfl ?_
    refine gr_bipush 106 X dX12_change_3 (by decide) ?_
    refine gr_icmp_ge 26 X dX12_change_5 (by decide) (fun h1 => ?_) (fun h1 => ?_)
    · rw [if_pos h1] at hf
      refine gr_aload_n X dX12_change_26 0 rfl rfl ?_
      obtain ⟨M2, q3, hf⟩ := gz_bde hf
      refine gr_callV (asF := fun ad => [.ref (ad 0)]) [] X (c12_note q3) rfl wm_RX12_335 rfl (X.kd gk_R0).1 ((X.kd gk_R0).2 _ _ _ _) rfl (by decide) (by decide) rfl (Nat.le_of_ble_eq_true rfl) hc dX12_change_27 ?_
      exact gz_EVu hE hf dX12_change_30
    · rw [if_neg h1] at hf
      refine gr_aload_n X dX12_change_8 0 rfl rfl ?_
      refine gf12_52 X wf_RX12_113 dX12_change_9 ?_
      refine gr_iload_n X dX12_change_12 1 rfl rfl ?_
      refine gr_aload_n X dX12_change_13 0 rfl rfl ?_
      refine gf12_0 X wf_RX12_9 dX12_change_14 ?_
      refine gr_iload_n X dX12_change_17 1 rfl rfl ?_
      obtain ⟨h4, hf⟩ := gz_cke hf
      refine gr_iaload X gk_R1 (gz_inp h4) dX12_change_18 ?_
      obtain ⟨h5, hf⟩ := gz_cke hf
      obtain ⟨M6, eM6, hf⟩ := gz_lte hf
      refine gr_iastore X gk_R34 (gz_inp h5) eM6 dX12_change_19 ?_
      obtain ⟨v7, ev7, hf⟩ := gz_lte hf
      refine gr_iinc 1 [(1, .int v7), (0, .ref (gx_ad x 0))] X dX12_change_20 1 rfl (by decide) ev7 (by decide) rfl ?_
      refine gr_goto 2 X dX12_change_23 (by decide) ?_
      refine gr_sub (lv' := [(0, .ref (gx_ad x 0)), (1, .int v7)]) [1, 0] rfl ?_
      exact ih _ _ hf

def f12_change (M0 : gz_M) : Option (gz_M) := f12_change_2 gz_FU 0 M0
set_option maxRecDepth 100000 in
theorem c12_change {pf : Nat → Bool} {l : Launch} {M0 M' : gz_M} (hf : f12_change M0 = some M') : gz_CV l gz_cfR yX12_change cX12_change 2 2 (fun ad => [.ref (ad 0)]) pf M0 M' := by
  refine gz_ofV (by decide +kernel) (fun _ => Nat.le_of_ble_eq_true rfl) (fun x X hc hE => ?_)
  show gz_At x 0 [(0, .ref (gx_ad x 0))] [] M0
  unfold f12_change at hf
  refine gr_iconst 0 X dX12_change_0 (by decide) ?_
  refine gr_istore_n [(1, .int 0), (0, .ref (gx_ad x 0))] X dX12_change_1 rfl rfl (by decide) rfl ?_
  refine gr_sub (lv' := [(0, .ref (gx_ad x 0)), (1, .int 0)]) [1, 0] rfl ?_
  exact b12_change_2 X hc hE _ _ _ hf

def f12_setLine_10 : Nat → Int32 → Int32 → gz_M → Option (gz_M)
  | 0, _, _, _ => none
  | n + 1, x1, x2, M0 => if 24 ≤ x2 then (some M0) else (if x1 ≤ x2 then (gz_ck (gz_inb (82 + x2) 106) <| gz_lt (gz_w M0 1 (82 + x2).toNatClampNeg 0) fun M4 => gz_lt (x2 + 1) fun v5 => f12_setLine_10 n x1 v5 M4) else (gz_ck (gz_inb x2 24) <| gz_ck (gz_inb (82 + x2) 106) <| gz_lt (gz_w M0 1 (82 + x2).toNatClampNeg (M0.1 15 x2.toNatClampNeg)) fun M8 => gz_lt (x2 + 1) fun v9 => f12_setLine_10 n x1 v9 M8))
theorem b12_setLine_10 {x : gz_X} {pf : Nat → Bool} {l : Launch} {M' : gz_M} (X : gz_Ok x cX12_setLine RX12 3 1 gz_cfR pf l) (hc : gx_cells x ≤ (gx_R x).cells ∧ gx_slots x ≤ (gx_R x).slots) (hE : gz_EV x cX12_setLine M') : ∀ (n : Nat) (x1 : Int32) (x2 : Int32) (M0 : gz_M), f12_setLine_10 n x1 x2 M0 = some M' → gz_At x 10 [(0, .ref (gx_ad x 0)), (1, .int x1), (2, .int x2)] [] M0 := by
  intro n
  induction n with
  | zero =>
    intro x1 x2 M0  hf
    rw [f12_setLine_10] at hf
    cases hf
  | succ n ih =>
    intro x1 x2 M0  hf
    rw [f12_setLine_10] at hf
    refine gr_iload_n X dX12_setLine_10 2 rfl rfl ?_
    refine gr_bipush 24 X dX12_setLine_11 (by decide) ?_
    refine gr_icmp_ge 46 X dX12_setLine_13 (by decide) (fun h1 => ?_) (fun h1 => ?_)
    · rw [if_pos h1] at hf
      exact gz_EVu hE hf dX12_setLine_46
    · rw [if_neg h1] at hf
      refine gr_aload_n X dX12_setLine_16 0 rfl rfl ?_
      refine gf12_0 X wf_RX12_9 dX12_setLine_17 ?_
      refine gr_bipush 82 X dX12_setLine_20 (by decide) ?_
      refine gr_iload_n X dX12_setLine_22 2 rfl rfl ?_
      refine gr_iadd X dX12_setLine_23 ?_
      refine gr_iload_n X dX12_setLine_24 2 rfl rfl ?_
      refine gr_iload_n X dX12_setLine_25 1 rfl rfl ?_
      refine gr_icmp_ge 38 X dX12_setLine_26 (by decide) (fun h2 => ?_) (fun h2 => ?_)
      · rw [if_pos h2] at hf
        refine gr_iconst 0 X dX12_setLine_38 (by decide) ?_
        obtain ⟨h3, hf⟩ := gz_cke hf
        obtain ⟨M4, eM4, hf⟩ := gz_lte hf
        refine gr_iastore X gk_R1 (gz_inp h3) eM4 dX12_setLine_39 ?_
        obtain ⟨v5, ev5, hf⟩ := gz_lte hf
        refine gr_iinc 1 [(2, .int v5), (0, .ref (gx_ad x 0)), (1, .int x1)] X dX12_setLine_40 2 rfl (by decide) ev5 (by decide) rfl ?_
        refine gr_goto 10 X dX12_setLine_43 (by decide) ?_
        refine gr_sub (lv' := [(0, .ref (gx_ad x 0)), (1, .int x1), (2, .int v5)]) [1, 2, 0] rfl ?_
        exact ih _ _ _ hf
      · rw [if_neg h2] at hf
        refine gr_aload_n X dX12_setLine_29 0 rfl rfl ?_
        refine gf12_25 X wf_RX12_55 dX12_setLine_30 ?_
        refine gr_iload_n X dX12_setLine_33 2 rfl rfl ?_
        obtain ⟨h6, hf⟩ := gz_cke hf
        refine gr_iaload X gk_R15 (gz_inp h6) dX12_setLine_34 ?_
        refine gr_goto 39 X dX12_setLine_35 (by decide) ?_
        obtain ⟨h7, hf⟩ := gz_cke hf
        obtain ⟨M8, eM8, hf⟩ := gz_lte hf
        refine gr_iastore X gk_R1 (gz_inp h7) eM8 dX12_setLine_39 ?_
        obtain ⟨v9, ev9, hf⟩ := gz_lte hf
        refine gr_iinc 1 [(2, .int v9), (0, .ref (gx_ad x 0)), (1, .int x1)] X dX12_setLine_40 2 rfl (by decide) ev9 (by decide) rfl ?_
        refine gr_goto 10 X dX12_setLine_43 (by decide) ?_
        refine gr_sub (lv' := [(0, .ref (gx_ad x 0)), (1, .int x1), (2, .int v9)]) [1, 2, 0] rfl ?_
        exact ih _ _ _ hf

def f12_setLine (a0 : Int32) (M0 : gz_M) : Option (gz_M) := gz_ck (gz_inb 81 106) <| gz_lt (gz_w M0 1 (81 : Int32).toNatClampNeg a0) fun M2 => f12_setLine_10 gz_FU a0 0 M2
set_option maxRecDepth 100000 in
theorem c12_setLine {pf : Nat → Bool} {l : Launch} {M0 M' : gz_M} {a0 : Int32} (hf : f12_setLine a0 M0 = some M') : gz_CV l gz_cfR yX12_setLine cX12_setLine 3 1 (fun ad => [.ref (ad 0), .int a0]) pf M0 M' := by
  refine gz_ofV (by decide +kernel) (fun _ => Nat.le_of_ble_eq_true rfl) (fun x X hc hE => ?_)
  show gz_At x 0 [(0, .ref (gx_ad x 0)), (1, .int a0)] [] M0
  unfold f12_setLine at hf
  refine gr_aload_n X dX12_setLine_0 0 rfl rfl ?_
  refine gf12_0 X wf_RX12_9 dX12_setLine_1 ?_
  refine gr_bipush 81 X dX12_setLine_4 (by decide) ?_
  refine gr_iload_n X dX12_setLine_6 1 rfl rfl ?_
  obtain ⟨h1, hf⟩ := gz_cke hf
  obtain ⟨M2, eM2, hf⟩ := gz_lte hf
  refine gr_iastore X gk_R1 (gz_inp h1) eM2 dX12_setLine_7 ?_
  refine gr_iconst 0 X dX12_setLine_8 (by decide) ?_
  refine gr_istore_n [(2, .int 0), (0, .ref (gx_ad x 0)), (1, .int a0)] X dX12_setLine_9 rfl rfl (by decide) rfl ?_
  refine gr_sub (lv' := [(0, .ref (gx_ad x 0)), (1, .int a0), (2, .int 0)]) [1, 2, 0] rfl ?_
  exact b12_setLine_10 X hc hE _ _ _ _ hf

def f12_line_73 (x1 : Int32) (M0 : gz_M) : Option (Int32 × gz_M) := gz_bd2 (f12_wasRight M0) fun v1 M2 => if v1 = 0 then (some ((-1) - (M2.1 0 9), M2)) else (gz_bd (f12_change M2) fun M5 => gz_bd (f12_setLine x1 M5) fun M7 => some (x1, M7))
theorem b12_line_73 {x : gz_X} {pf : Nat → Bool} {l : Launch} {r : Int32} {M' : gz_M} (X : gz_Ok x cX12_line RX12 2 4 gz_cfR pf l) (hc : gx_cells x ≤ (gx_R x).cells ∧ gx_slots x ≤ (gx_R x).slots) (hE : gz_EI x cX12_line .int r M') : ∀ (x1 : Int32) (M0 : gz_M), f12_line_73 x1 M0 = some (r, M') → gz_At x 73 [(0, .ref (gx_ad x 0)), (1, .int x1)] [] M0 := by
  intro x1 M0  hf
  rw [f12_line_73] at hf
  refine gr_aload_n X dX12_line_73 0 rfl rfl ?_
  obtain ⟨v1, M2, q3, hf⟩ := gz_bd2e hf
  refine gr_callI (asF := fun ad => [.ref (ad 0)]) [] X (c12_wasRight q3) rfl wm_RX12_208 rfl (X.kd gk_R0).1 ((X.kd gk_R0).2 _ _ _ _) rfl (by decide) (by decide) rfl (Nat.le_of_ble_eq_true rfl) hc dX12_line_74 ?_
  refine gr_if_ne 87 X dX12_line_77 (by decide) (fun h4 => ?_) (fun h4 => ?_)
  · rw [if_pos h4] at hf
    refine gr_iconst (-1) X dX12_line_80 (by decide) ?_
    refine gr_aload_n X dX12_line_81 0 rfl rfl ?_
    refine gf12_9 X wf_RX12_143 dX12_line_82 ?_
    refine gr_isub X dX12_line_85 ?_
    exact gz_EIu hE hf rfl dX12_line_86
  · rw [if_neg h4] at hf
    refine gr_aload_n X dX12_line_87 0 rfl rfl ?_
    obtain ⟨M5, q6, hf⟩ := gz_bde hf
    refine gr_callV (asF := fun ad => [.ref (ad 0)]) [] X (c12_change q6) rfl wm_RX12_220 rfl (X.kd gk_R0).1 ((X.kd gk_R0).2 _ _ _ _) rfl (by decide) (by decide) rfl (Nat.le_of_ble_eq_true rfl) hc dX12_line_88 ?_
    refine gr_aload_n X dX12_line_91 0 rfl rfl ?_
    refine gr_iload_n X dX12_line_92 1 rfl rfl ?_
    obtain ⟨M7, q8, hf⟩ := gz_bde hf
    refine gr_callV (asF := fun ad => [.ref (ad 0), .int x1]) [.int x1] X (c12_setLine q8) rfl wm_RX12_223 rfl (X.kd gk_R0).1 ((X.kd gk_R0).2 _ _ _ _) rfl (by decide) (by decide) rfl (Nat.le_of_ble_eq_true rfl) hc dX12_line_93 ?_
    refine gr_iload_n X dX12_line_96 1 rfl rfl ?_
    exact gz_EIu hE hf rfl dX12_line_97

def f12_line_58 (c11 : Int32 → gz_M → Option (Int32 × gz_M)) (x1 : Int32) (s0 : Int32) (M0 : gz_M) : Option (Int32 × gz_M) := gz_bd2 (f12_oneOf 97 8 M0) fun v1 M2 => gz_ck (gz_inb s0 24) <| gz_lt (gz_w M2 15 s0.toNatClampNeg v1) fun M5 => gz_lt (x1 + 1) fun v6 => c11 v6 M5
theorem b12_line_58 {x : gz_X} {pf : Nat → Bool} {l : Launch} {r : Int32} {M' : gz_M} (X : gz_Ok x cX12_line RX12 2 4 gz_cfR pf l) (hc : gx_cells x ≤ (gx_R x).cells ∧ gx_slots x ≤ (gx_R x).slots) (hE : gz_EI x cX12_line .int r M') {c11 : Int32 → gz_M → Option (Int32 × gz_M)} (hc11 : ∀ (x1 : Int32) (M0 : gz_M), c11 x1 M0 = some (r, M') → gz_At x 11 [(0, .ref (gx_ad x 0)), (1, .int x1)] [] M0) : ∀ (x1 : Int32) (s0 : Int32) (M0 : gz_M), f12_line_58 c11 x1 s0 M0 = some (r, M') → gz_At x 58 [(0, .ref (gx_ad x 0)), (1, .int x1)] [.int s0, .ref (gx_ad x 15)] M0 := by
  intro x1 s0 M0  hf
  rw [f12_line_58] at hf
  refine gr_aload_n X dX12_line_58 0 rfl rfl ?_
  refine gr_bipush 97 X dX12_line_59 (by decide) ?_
  refine gr_bipush 8 X dX12_line_61 (by decide) ?_
  obtain ⟨v1, M2, q3, hf⟩ := gz_bd2e hf
  refine gr_callI (asF := fun ad => [.ref (ad 0), .int 97, .int 8]) [.int 97, .int 8] X (c12_oneOf q3) rfl wm_RX12_162 rfl (X.kd gk_R0).1 ((X.kd gk_R0).2 _ _ _ _) rfl (by decide) (by decide) rfl (Nat.le_of_ble_eq_true rfl) hc dX12_line_63 ?_
  obtain ⟨h4, hf⟩ := gz_cke hf
  obtain ⟨M5, eM5, hf⟩ := gz_lte hf
  refine gr_iastore X gk_R15 (gz_inp h4) eM5 dX12_line_66 ?_
  obtain ⟨v6, ev6, hf⟩ := gz_lte hf
  refine gr_iinc 1 [(1, .int v6), (0, .ref (gx_ad x 0))] X dX12_line_67 1 rfl (by decide) ev6 (by decide) rfl ?_
  refine gr_goto 11 X dX12_line_70 (by decide) ?_
  refine gr_sub (lv' := [(0, .ref (gx_ad x 0)), (1, .int v6)]) [1, 0] rfl ?_
  exact hc11 _ _ hf

def f12_line_43 (c11 : Int32 → gz_M → Option (Int32 × gz_M)) (x1 : Int32) (M0 : gz_M) : Option (Int32 × gz_M) := if 24 ≤ x1 then (f12_line_58 c11 x1 0 M0) else (f12_line_58 c11 x1 x1 M0)
theorem b12_line_43 {x : gz_X} {pf : Nat → Bool} {l : Launch} {r : Int32} {M' : gz_M} (X : gz_Ok x cX12_line RX12 2 4 gz_cfR pf l) (hc : gx_cells x ≤ (gx_R x).cells ∧ gx_slots x ≤ (gx_R x).slots) (hE : gz_EI x cX12_line .int r M') {c11 : Int32 → gz_M → Option (Int32 × gz_M)} (hc11 : ∀ (x1 : Int32) (M0 : gz_M), c11 x1 M0 = some (r, M') → gz_At x 11 [(0, .ref (gx_ad x 0)), (1, .int x1)] [] M0) : ∀ (x1 : Int32) (M0 : gz_M), f12_line_43 c11 x1 M0 = some (r, M') → gz_At x 43 [(0, .ref (gx_ad x 0)), (1, .int x1)] [] M0 := by
  intro x1 M0  hf
  rw [f12_line_43] at hf
  refine gr_aload_n X dX12_line_43 0 rfl rfl ?_
  refine gf12_25 X wf_RX12_55 dX12_line_44 ?_
  refine gr_iload_n X dX12_line_47 1 rfl rfl ?_
  refine gr_bipush 24 X dX12_line_48 (by decide) ?_
  refine gr_icmp_ge 57 X dX12_line_50 (by decide) (fun h1 => ?_) (fun h1 => ?_)
  · rw [if_pos h1] at hf
    refine gr_iconst 0 X dX12_line_57 (by decide) ?_
    exact b12_line_58 X hc hE hc11 _ _ _ hf
  · rw [if_neg h1] at hf
    refine gr_iload_n X dX12_line_53 1 rfl rfl ?_
    refine gr_goto 58 X dX12_line_54 (by decide) ?_
    exact b12_line_58 X hc hE hc11 _ _ _ hf

def f12_line_11 : Nat → Int32 → gz_M → Option (Int32 × gz_M)
  | 0, _, _ => none
  | n + 1, x1, M0 => gz_bd2 (f12_fine M0) fun v1 M2 => if v1 = 0 then (f12_line_73 x1 M2) else (if (M2.1 0 7) ≤ (M2.1 0 8) then (f12_line_73 x1 M2) else (if x1 = 24 then (gz_bd (f12_fault (M2.1 0 8) M2) fun M7 => f12_line_43 (f12_line_11 n) x1 M7) else (f12_line_43 (f12_line_11 n) x1 M2)))
theorem b12_line_11 {x : gz_X} {pf : Nat → Bool} {l : Launch} {r : Int32} {M' : gz_M} (X : gz_Ok x cX12_line RX12 2 4 gz_cfR pf l) (hc : gx_cells x ≤ (gx_R x).cells ∧ gx_slots x ≤ (gx_R x).slots) (hE : gz_EI x cX12_line .int r M') : ∀ (n : Nat) (x1 : Int32) (M0 : gz_M), f12_line_11 n x1 M0 = some (r, M') → gz_At x 11 [(0, .ref (gx_ad x 0)), (1, .int x1)] [] M0 := by
  intro n
  induction n with
  | zero =>
    intro x1 M0  hf
    rw [f12_line_11] at hf
    cases hf
  | succ n ih =>
    intro x1 M0  hf
    rw [f12_line_11] at hf
    refine gr_aload_n X dX12_line_11 0 rfl rfl ?_
    obtain ⟨v1, M2, q3, hf⟩ := gz_bd2e hf
    refine gr_callI (asF := fun ad => [.ref (ad 0)]) [] X (c12_fine q3) rfl wm_RX12_146 rfl (X.kd gk_R0).1 ((X.kd gk_R0).2 _ _ _ _) rfl (by decide) (by decide) rfl (Nat.le_of_ble_eq_true rfl) hc dX12_line_12 ?_
    refine gr_if_eq 73 X dX12_line_15 (by decide) (fun h4 => ?_) (fun h4 => ?_)
    · rw [if_pos h4] at hf
      exact b12_line_73 X hc hE _ _ hf
    · rw [if_neg h4] at hf
      refine gr_aload_n X dX12_line_18 0 rfl rfl ?_
      refine gf12_8 X wf_RX12_140 dX12_line_19 ?_
      refine gr_aload_n X dX12_line_22 0 rfl rfl ?_
      refine gf12_7 X wf_RX12_137 dX12_line_23 ?_
      refine gr_icmp_ge 73 X dX12_line_26 (by decide) (fun h5 => ?_) (fun h5 => ?_)
      · rw [if_pos h5] at hf
        exact b12_line_73 X hc hE _ _ hf
      · rw [if_neg h5] at hf
        refine gr_iload_n X dX12_line_29 1 rfl rfl ?_
        refine gr_bipush 24 X dX12_line_30 (by decide) ?_
        refine gr_icmp_ne 43 X dX12_line_32 (by decide) (fun h6 => ?_) (fun h6 => ?_)
        · rw [if_pos h6] at hf
          refine gr_aload_n X dX12_line_35 0 rfl rfl ?_
          refine gr_aload_n X dX12_line_36 0 rfl rfl ?_
          refine gf12_8 X wf_RX12_140 dX12_line_37 ?_
          obtain ⟨M7, q8, hf⟩ := gz_bde hf
          refine gr_callV (asF := fun ad => [.ref (ad 0), .int (M2.1 0 8)]) [.int (M2.1 0 8)] X (c12_fault q8) rfl wm_RX12_158 rfl (X.kd gk_R0).1 ((X.kd gk_R0).2 _ _ _ _) rfl (by decide) (by decide) rfl (Nat.le_of_ble_eq_true rfl) hc dX12_line_40 ?_
          exact b12_line_43 X hc hE ih _ _ hf
        · rw [if_neg h6] at hf
          exact b12_line_43 X hc hE ih _ _ hf

def f12_line (M0 : gz_M) : Option (Int32 × gz_M) := gz_lt (gz_w M0 0 5 0) fun M1 => gz_bd (f12_begin M1) fun M2 => f12_line_11 gz_FU 0 M2
set_option maxRecDepth 100000 in
theorem c12_line {pf : Nat → Bool} {l : Launch} {r : Int32} {M0 M' : gz_M} (hf : f12_line M0 = some (r, M')) : gz_CI l gz_cfR yX12_line cX12_line 2 4 .int (fun ad => [.ref (ad 0)]) pf M0 r M' := by
  refine gz_ofI (by decide +kernel) (fun _ => Nat.le_of_ble_eq_true rfl) (fun x X hc hE => ?_)
  show gz_At x 0 [(0, .ref (gx_ad x 0))] [] M0
  unfold f12_line at hf
  refine gr_aload_n X dX12_line_0 0 rfl rfl ?_
  refine gr_iconst 0 X dX12_line_1 (by decide) ?_
  obtain ⟨M1, eM1, hf⟩ := gz_lte hf
  refine gp12_5 X wf_RX12_123 eM1 dX12_line_2 ?_
  refine gr_aload_n X dX12_line_5 0 rfl rfl ?_
  obtain ⟨M2, q3, hf⟩ := gz_bde hf
  refine gr_callV (asF := fun ad => [.ref (ad 0)]) [] X (c12_begin q3) rfl wm_RX12_214 rfl (X.kd gk_R0).1 ((X.kd gk_R0).2 _ _ _ _) rfl (by decide) (by decide) rfl (Nat.le_of_ble_eq_true rfl) hc dX12_line_6 ?_
  refine gr_iconst 0 X dX12_line_9 (by decide) ?_
  refine gr_istore_n [(1, .int 0), (0, .ref (gx_ad x 0))] X dX12_line_10 rfl rfl (by decide) rfl ?_
  refine gr_sub (lv' := [(0, .ref (gx_ad x 0)), (1, .int 0)]) [1, 0] rfl ?_
  exact b12_line_11 X hc hE _ _ _ hf

def f12_rule (a0 : Int32) (a1 : Int32) (M0 : gz_M) : Option (Int32 × gz_M) := gz_lt (gz_w M0 0 5 0) fun M1 => gz_bd2 (f12_in a0 0 ((M1.1 0 10) - 1) M1) fun v2 M3 => if v2 = 0 then (gz_bd2 (f12_lost M3) fun v6 M7 => some (v6, M7)) else (if a1.toInt < 0 ∨ 4 < a1.toInt then (gz_bd2 (f12_lost M3) fun v10 M11 => some (v10, M11)) else if a1 = 0 then (gz_ck (gz_inb a0 8) <| some (M3.1 5 a0.toNatClampNeg, M3)) else if a1 = 1 then (gz_ck (gz_inb a0 8) <| some (M3.1 6 a0.toNatClampNeg, M3)) else if a1 = 2 then (gz_ck (gz_inb a0 8) <| some (M3.1 7 a0.toNatClampNeg, M3)) else if a1 = 3 then (gz_ck (gz_inb a0 8) <| some (M3.1 8 a0.toNatClampNeg, M3)) else if a1 = 4 then (gz_ck (gz_inb a0 8) <| if (M3.1 9 a0.toNatClampNeg) = 0 then (some (0, M3)) else (some (1, M3))) else none)
set_option maxRecDepth 100000 in
theorem c12_rule {pf : Nat → Bool} {l : Launch} {r : Int32} {M0 M' : gz_M} {a0 : Int32} {a1 : Int32} (hf : f12_rule a0 a1 M0 = some (r, M')) : gz_CI l gz_cfR yX12_rule cX12_rule 3 2 .int (fun ad => [.ref (ad 0), .int a0, .int a1]) pf M0 r M' := by
  refine gz_ofI (by decide +kernel) (fun _ => Nat.le_of_ble_eq_true rfl) (fun x X hc hE => ?_)
  show gz_At x 0 [(0, .ref (gx_ad x 0)), (1, .int a0), (2, .int a1)] [] M0
  unfold f12_rule at hf
  refine gr_aload_n X dX12_rule_0 0 rfl rfl ?_
  refine gr_iconst 0 X dX12_rule_1 (by decide) ?_
  obtain ⟨M1, eM1, hf⟩ := gz_lte hf
  refine gp12_5 X wf_RX12_123 eM1 dX12_rule_2 ?_
  refine gr_iload_n X dX12_rule_5 1 rfl rfl ?_
  refine gr_iconst 0 X dX12_rule_6 (by decide) ?_
  refine gr_aload_n X dX12_rule_7 0 rfl rfl ?_
  refine gf12_10 X wf_RX12_202 dX12_rule_8 ?_
  refine gr_iconst 1 X dX12_rule_11 (by decide) ?_
  refine gr_isub X dX12_rule_12 ?_
  obtain ⟨v2, M3, q4, hf⟩ := gz_bd2e hf
  refine gr_callSI (asF := fun _ => [.int a0, .int 0, .int ((M1.1 0 10) - 1)]) [.int a0, .int 0, .int ((M1.1 0 10) - 1)] X (c12_in q4) rfl wm_RX12_133 rfl (by decide) (by decide) rfl (Nat.le_of_ble_eq_true rfl) hc dX12_rule_13 ?_
  refine gr_if_ne 24 X dX12_rule_16 (by decide) (fun h5 => ?_) (fun h5 => ?_)
  · rw [if_pos h5] at hf
    refine gr_aload_n X dX12_rule_19 0 rfl rfl ?_
    obtain ⟨v6, M7, q8, hf⟩ := gz_bd2e hf
    refine gr_callI (asF := fun ad => [.ref (ad 0)]) [] X (c12_lost q8) rfl wm_RX12_226 rfl (X.kd gk_R0).1 ((X.kd gk_R0).2 _ _ _ _) rfl (by decide) (by decide) rfl (Nat.le_of_ble_eq_true rfl) hc dX12_rule_20 ?_
    exact gz_EIu hE hf rfl dX12_rule_23
  · rw [if_neg h5] at hf
    refine gr_iload_n X dX12_rule_24 2 rfl rfl ?_
    by_cases h9 : a1.toInt < 0 ∨ 4 < a1.toInt
    · rw [if_pos h9] at hf
      refine gr_tsOut 103 X dX12_rule_25 h9 (by decide) ?_
      refine gr_aload_n X dX12_rule_103 0 rfl rfl ?_
      obtain ⟨v10, M11, q12, hf⟩ := gz_bd2e hf
      refine gr_callI (asF := fun ad => [.ref (ad 0)]) [] X (c12_lost q12) rfl wm_RX12_226 rfl (X.kd gk_R0).1 ((X.kd gk_R0).2 _ _ _ _) rfl (by decide) (by decide) rfl (Nat.le_of_ble_eq_true rfl) hc dX12_rule_104 ?_
      exact gz_EIu hE hf rfl dX12_rule_107
    rw [if_neg h9] at hf
    by_cases h13 : a1 = 0
    · rw [if_pos h13] at hf
      refine gr_tsIn 0 35 60 X dX12_rule_25 h13 (by decide) (by decide) (by decide) (by decide) ?_
      refine gr_aload_n X dX12_rule_60 0 rfl rfl ?_
      refine gf12_11 X wf_RX12_24 dX12_rule_61 ?_
      refine gr_iload_n X dX12_rule_64 1 rfl rfl ?_
      obtain ⟨h14, hf⟩ := gz_cke hf
      refine gr_iaload X gk_R5 (gz_inp h14) dX12_rule_65 ?_
      exact gz_EIu hE hf rfl dX12_rule_66
    rw [if_neg h13] at hf
    by_cases h15 : a1 = 1
    · rw [if_pos h15] at hf
      refine gr_tsIn 1 42 67 X dX12_rule_25 h15 (by decide) (by decide) (by decide) (by decide) ?_
      refine gr_aload_n X dX12_rule_67 0 rfl rfl ?_
      refine gf12_12 X wf_RX12_27 dX12_rule_68 ?_
      refine gr_iload_n X dX12_rule_71 1 rfl rfl ?_
      obtain ⟨h16, hf⟩ := gz_cke hf
      refine gr_iaload X gk_R6 (gz_inp h16) dX12_rule_72 ?_
      exact gz_EIu hE hf rfl dX12_rule_73
    rw [if_neg h15] at hf
    by_cases h17 : a1 = 2
    · rw [if_pos h17] at hf
      refine gr_tsIn 2 49 74 X dX12_rule_25 h17 (by decide) (by decide) (by decide) (by decide) ?_
      refine gr_aload_n X dX12_rule_74 0 rfl rfl ?_
      refine gf12_13 X wf_RX12_30 dX12_rule_75 ?_
      refine gr_iload_n X dX12_rule_78 1 rfl rfl ?_
      obtain ⟨h18, hf⟩ := gz_cke hf
      refine gr_iaload X gk_R7 (gz_inp h18) dX12_rule_79 ?_
      exact gz_EIu hE hf rfl dX12_rule_80
    rw [if_neg h17] at hf
    by_cases h19 : a1 = 3
    · rw [if_pos h19] at hf
      refine gr_tsIn 3 56 81 X dX12_rule_25 h19 (by decide) (by decide) (by decide) (by decide) ?_
      refine gr_aload_n X dX12_rule_81 0 rfl rfl ?_
      refine gf12_14 X wf_RX12_33 dX12_rule_82 ?_
      refine gr_iload_n X dX12_rule_85 1 rfl rfl ?_
      obtain ⟨h20, hf⟩ := gz_cke hf
      refine gr_iaload X gk_R8 (gz_inp h20) dX12_rule_86 ?_
      exact gz_EIu hE hf rfl dX12_rule_87
    rw [if_neg h19] at hf
    by_cases h21 : a1 = 4
    · rw [if_pos h21] at hf
      refine gr_tsIn 4 63 88 X dX12_rule_25 h21 (by decide) (by decide) (by decide) (by decide) ?_
      refine gr_aload_n X dX12_rule_88 0 rfl rfl ?_
      refine gf12_15 X wf_RX12_36 dX12_rule_89 ?_
      refine gr_iload_n X dX12_rule_92 1 rfl rfl ?_
      obtain ⟨h22, hf⟩ := gz_cke hf
      refine gr_zaload X gk_R9 (gz_inp h22) dX12_rule_93 ?_
      refine gr_if_eq 101 X dX12_rule_94 (by decide) (fun h23 => ?_) (fun h23 => ?_)
      · rw [if_pos h23] at hf
        refine gr_iconst 0 X dX12_rule_101 (by decide) ?_
        exact gz_EIu hE hf rfl dX12_rule_102
      · rw [if_neg h23] at hf
        refine gr_iconst 1 X dX12_rule_97 (by decide) ?_
        refine gr_goto 102 X dX12_rule_98 (by decide) ?_
        exact gz_EIu hE hf rfl dX12_rule_102
    rw [if_neg h21] at hf
    cases hf

def f12_at (a0 : Int32) (M0 : gz_M) : Option (Int32 × gz_M) := gz_lt (gz_w M0 0 5 0) fun M1 => gz_ck (gz_inb 81 106) <| gz_bd2 (f12_in a0 0 ((M1.1 1 (81 : Int32).toNatClampNeg) - 1) M1) fun v3 M4 => if v3 = 0 then (gz_bd2 (f12_lost M4) fun v7 M8 => some (v7, M8)) else (gz_ck (gz_inb (82 + a0) 106) <| some (M4.1 1 (82 + a0).toNatClampNeg, M4))
set_option maxRecDepth 100000 in
theorem c12_at {pf : Nat → Bool} {l : Launch} {r : Int32} {M0 M' : gz_M} {a0 : Int32} (hf : f12_at a0 M0 = some (r, M')) : gz_CI l gz_cfR yX12_at cX12_at 2 2 .int (fun ad => [.ref (ad 0), .int a0]) pf M0 r M' := by
  refine gz_ofI (by decide +kernel) (fun _ => Nat.le_of_ble_eq_true rfl) (fun x X hc hE => ?_)
  show gz_At x 0 [(0, .ref (gx_ad x 0)), (1, .int a0)] [] M0
  unfold f12_at at hf
  refine gr_aload_n X dX12_at_0 0 rfl rfl ?_
  refine gr_iconst 0 X dX12_at_1 (by decide) ?_
  obtain ⟨M1, eM1, hf⟩ := gz_lte hf
  refine gp12_5 X wf_RX12_123 eM1 dX12_at_2 ?_
  refine gr_iload_n X dX12_at_5 1 rfl rfl ?_
  refine gr_iconst 0 X dX12_at_6 (by decide) ?_
  refine gr_aload_n X dX12_at_7 0 rfl rfl ?_
  refine gf12_0 X wf_RX12_9 dX12_at_8 ?_
  refine gr_bipush 81 X dX12_at_11 (by decide) ?_
  obtain ⟨h2, hf⟩ := gz_cke hf
  refine gr_iaload X gk_R1 (gz_inp h2) dX12_at_13 ?_
  refine gr_iconst 1 X dX12_at_14 (by decide) ?_
  refine gr_isub X dX12_at_15 ?_
  obtain ⟨v3, M4, q5, hf⟩ := gz_bd2e hf
  refine gr_callSI (asF := fun _ => [.int a0, .int 0, .int ((M1.1 1 (81 : Int32).toNatClampNeg) - 1)]) [.int a0, .int 0, .int ((M1.1 1 (81 : Int32).toNatClampNeg) - 1)] X (c12_in q5) rfl wm_RX12_133 rfl (by decide) (by decide) rfl (Nat.le_of_ble_eq_true rfl) hc dX12_at_16 ?_
  refine gr_if_eq 34 X dX12_at_19 (by decide) (fun h6 => ?_) (fun h6 => ?_)
  · rw [if_pos h6] at hf
    refine gr_aload_n X dX12_at_34 0 rfl rfl ?_
    obtain ⟨v7, M8, q9, hf⟩ := gz_bd2e hf
    refine gr_callI (asF := fun ad => [.ref (ad 0)]) [] X (c12_lost q9) rfl wm_RX12_226 rfl (X.kd gk_R0).1 ((X.kd gk_R0).2 _ _ _ _) rfl (by decide) (by decide) rfl (Nat.le_of_ble_eq_true rfl) hc dX12_at_35 ?_
    exact gz_EIu hE hf rfl dX12_at_38
  · rw [if_neg h6] at hf
    refine gr_aload_n X dX12_at_22 0 rfl rfl ?_
    refine gf12_0 X wf_RX12_9 dX12_at_23 ?_
    refine gr_bipush 82 X dX12_at_26 (by decide) ?_
    refine gr_iload_n X dX12_at_28 1 rfl rfl ?_
    refine gr_iadd X dX12_at_29 ?_
    obtain ⟨h10, hf⟩ := gz_cke hf
    refine gr_iaload X gk_R1 (gz_inp h10) dX12_at_30 ?_
    refine gr_goto 38 X dX12_at_31 (by decide) ?_
    exact gz_EIu hE hf rfl dX12_at_38

def f12_sheet_108 (x1 : Int32) (x2 : Int32) (s0 : Int32) (M0 : gz_M) : Option (Int32 × gz_M) := gz_bd (f12_setLine s0 M0) fun M1 => if x1 = 3 then (some ((-3), M1)) else (some (x2, M1))
theorem b12_sheet_108 {x : gz_X} {pf : Nat → Bool} {l : Launch} {r : Int32} {M' : gz_M} (X : gz_Ok x cX12_sheet RX12 8 2 gz_cfR pf l) (hc : gx_cells x ≤ (gx_R x).cells ∧ gx_slots x ≤ (gx_R x).slots) (hE : gz_EI x cX12_sheet .int r M') : ∀ (x1 : Int32) (x2 : Int32) (s0 : Int32) (M0 : gz_M), f12_sheet_108 x1 x2 s0 M0 = some (r, M') → gz_At x 108 [(1, .int x1), (2, .int x2)] [.int s0, .ref (gx_ad x 0)] M0 := by
  intro x1 x2 s0 M0  hf
  rw [f12_sheet_108] at hf
  obtain ⟨M1, q2, hf⟩ := gz_bde hf
  refine gr_callV (asF := fun ad => [.ref (ad 0), .int s0]) [.int s0] X (c12_setLine q2) rfl wm_RX12_223 rfl (X.kd gk_R0).1 ((X.kd gk_R0).2 _ _ _ _) rfl (by decide) (by decide) rfl (Nat.le_of_ble_eq_true rfl) hc dX12_sheet_108 ?_
  refine gr_iload_n X dX12_sheet_111 0 rfl rfl ?_
  refine gr_iconst 3 X dX12_sheet_112 (by decide) ?_
  refine gr_icmp_ne 121 X dX12_sheet_113 (by decide) (fun h3 => ?_) (fun h3 => ?_)
  · rw [if_pos h3] at hf
    refine gr_bipush (-3) X dX12_sheet_116 (by decide) ?_
    refine gr_goto 122 X dX12_sheet_118 (by decide) ?_
    exact gz_EIu hE hf rfl dX12_sheet_122
  · rw [if_neg h3] at hf
    refine gr_iload_n X dX12_sheet_121 1 rfl rfl ?_
    exact gz_EIu hE hf rfl dX12_sheet_122

def f12_sheet_70 (c40 : Int32 → Int32 → Int32 → Int32 → Int32 → gz_M → Option (Int32 × gz_M)) (x1 : Int32) (x2 : Int32) (x4 : Int32) (x5 : Int32) (x6 : Int32) (s0 : Int32) (M0 : gz_M) : Option (Int32 × gz_M) := gz_ck (gz_inb x6 24) <| gz_lt (gz_w M0 15 x6.toNatClampNeg (s0 &&& 7)) fun M2 => gz_lt (x5 + x4) fun v3 => gz_lt (x6 + 1) fun v4 => c40 x1 x2 x4 v3 v4 M2
theorem b12_sheet_70 {x : gz_X} {pf : Nat → Bool} {l : Launch} {r : Int32} {M' : gz_M} (X : gz_Ok x cX12_sheet RX12 8 2 gz_cfR pf l) (hc : gx_cells x ≤ (gx_R x).cells ∧ gx_slots x ≤ (gx_R x).slots) (hE : gz_EI x cX12_sheet .int r M') {c40 : Int32 → Int32 → Int32 → Int32 → Int32 → gz_M → Option (Int32 × gz_M)} (hc40 : ∀ (x1 : Int32) (x2 : Int32) (x4 : Int32) (x5 : Int32) (x6 : Int32) (M0 : gz_M), c40 x1 x2 x4 x5 x6 M0 = some (r, M') → gz_At x 40 [(0, .ref (gx_ad x 0)), (1, .int x1), (2, .int x2), (4, .int x4), (5, .int x5), (6, .int x6)] [] M0) : ∀ (x1 : Int32) (x2 : Int32) (x4 : Int32) (x5 : Int32) (x6 : Int32) (s0 : Int32) (M0 : gz_M), f12_sheet_70 c40 x1 x2 x4 x5 x6 s0 M0 = some (r, M') → gz_At x 70 [(0, .ref (gx_ad x 0)), (1, .int x1), (2, .int x2), (4, .int x4), (5, .int x5), (6, .int x6)] [.int s0] M0 := by
  intro x1 x2 x4 x5 x6 s0 M0  hf
  rw [f12_sheet_70] at hf
  refine gr_istore [(7, .int s0), (0, .ref (gx_ad x 0)), (1, .int x1), (2, .int x2), (4, .int x4), (5, .int x5), (6, .int x6)] X dX12_sheet_70 rfl (by decide) rfl ?_
  refine gr_aload_n X dX12_sheet_72 1 rfl rfl ?_
  refine gf12_25 X wf_RX12_55 dX12_sheet_73 ?_
  refine gr_iload X dX12_sheet_76 6 rfl ?_
  refine gr_iload X dX12_sheet_78 0 rfl ?_
  refine gr_bipush 7 X dX12_sheet_80 (by decide) ?_
  refine gr_iand X dX12_sheet_82 ?_
  obtain ⟨h1, hf⟩ := gz_cke hf
  obtain ⟨M2, eM2, hf⟩ := gz_lte hf
  refine gr_iastore X gk_R15 (gz_inp h1) eM2 dX12_sheet_83 ?_
  refine gr_iload X dX12_sheet_84 5 rfl ?_
  refine gr_iload X dX12_sheet_86 4 rfl ?_
  refine gr_iadd X dX12_sheet_88 ?_
  obtain ⟨v3, ev3, hf⟩ := gz_lte hf
  refine gr_istore [(5, .int v3), (7, .int s0), (0, .ref (gx_ad x 0)), (1, .int x1), (2, .int x2), (4, .int x4), (6, .int x6)] X dX12_sheet_89 ev3 (by decide) rfl ?_
  obtain ⟨v4, ev4, hf⟩ := gz_lte hf
  refine gr_iinc 1 [(6, .int v4), (5, .int v3), (7, .int s0), (0, .ref (gx_ad x 0)), (1, .int x1), (2, .int x2), (4, .int x4)] X dX12_sheet_91 6 rfl (by decide) ev4 (by decide) rfl ?_
  refine gr_goto 40 X dX12_sheet_94 (by decide) ?_
  refine gr_sub (lv' := [(0, .ref (gx_ad x 0)), (1, .int x1), (2, .int x2), (4, .int x4), (5, .int v3), (6, .int v4)]) [3, 4, 5, 6, 1, 0] rfl ?_
  exact hc40 _ _ _ _ _ _ hf

def f12_sheet_40 : Nat → Int32 → Int32 → Int32 → Int32 → Int32 → gz_M → Option (Int32 × gz_M)
  | 0, _, _, _, _, _, _ => none
  | n + 1, x1, x2, x4, x5, x6, M0 => if 24 ≤ x6 then (if x1 = 3 then (f12_sheet_108 x1 x2 0 M0) else (f12_sheet_108 x1 x2 x2 M0)) else (if x1 = 0 then (f12_sheet_70 (f12_sheet_40 n) x1 x2 x4 x5 x6 (x5.toInt8.toInt32) M0) else (if x1 = 1 then (f12_sheet_70 (f12_sheet_40 n) x1 x2 x4 x5 x6 (x5.toInt16.toInt32) M0) else (f12_sheet_70 (f12_sheet_40 n) x1 x2 x4 x5 x6 x5 M0)))
theorem b12_sheet_40 {x : gz_X} {pf : Nat → Bool} {l : Launch} {r : Int32} {M' : gz_M} (X : gz_Ok x cX12_sheet RX12 8 2 gz_cfR pf l) (hc : gx_cells x ≤ (gx_R x).cells ∧ gx_slots x ≤ (gx_R x).slots) (hE : gz_EI x cX12_sheet .int r M') : ∀ (n : Nat) (x1 : Int32) (x2 : Int32) (x4 : Int32) (x5 : Int32) (x6 : Int32) (M0 : gz_M), f12_sheet_40 n x1 x2 x4 x5 x6 M0 = some (r, M') → gz_At x 40 [(0, .ref (gx_ad x 0)), (1, .int x1), (2, .int x2), (4, .int x4), (5, .int x5), (6, .int x6)] [] M0 := by
  intro n
  induction n with
  | zero =>
    intro x1 x2 x4 x5 x6 M0  hf
    rw [f12_sheet_40] at hf
    cases hf
  | succ n ih =>
    intro x1 x2 x4 x5 x6 M0  hf
    rw [f12_sheet_40] at hf
    refine gr_iload X dX12_sheet_40 5 rfl ?_
    refine gr_bipush 24 X dX12_sheet_42 (by decide) ?_
    refine gr_icmp_ge 97 X dX12_sheet_44 (by decide) (fun h1 => ?_) (fun h1 => ?_)
    · rw [if_pos h1] at hf
      refine gr_aload_n X dX12_sheet_97 0 rfl rfl ?_
      refine gr_iload_n X dX12_sheet_98 1 rfl rfl ?_
      refine gr_iconst 3 X dX12_sheet_99 (by decide) ?_
      refine gr_icmp_ne 107 X dX12_sheet_100 (by decide) (fun h2 => ?_) (fun h2 => ?_)
      · rw [if_pos h2] at hf
        refine gr_iconst 0 X dX12_sheet_103 (by decide) ?_
        refine gr_goto 108 X dX12_sheet_104 (by decide) ?_
        refine gr_sub (lv' := [(1, .int x1), (2, .int x2)]) [1, 2] rfl ?_
        exact b12_sheet_108 X hc hE _ _ _ _ hf
      · rw [if_neg h2] at hf
        refine gr_iload_n X dX12_sheet_107 2 rfl rfl ?_
        refine gr_sub (lv' := [(1, .int x1), (2, .int x2)]) [1, 2] rfl ?_
        exact b12_sheet_108 X hc hE _ _ _ _ hf
    · rw [if_neg h1] at hf
      refine gr_iload_n X dX12_sheet_47 1 rfl rfl ?_
      refine gr_if_ne 57 X dX12_sheet_48 (by decide) (fun h3 => ?_) (fun h3 => ?_)
      · rw [if_pos h3] at hf
        refine gr_iload X dX12_sheet_51 4 rfl ?_
        refine gr_i2b X dX12_sheet_53 ?_
        refine gr_goto 70 X dX12_sheet_54 (by decide) ?_
        exact b12_sheet_70 X hc hE ih _ _ _ _ _ _ _ hf
      · rw [if_neg h3] at hf
        refine gr_iload_n X dX12_sheet_57 1 rfl rfl ?_
        refine gr_iconst 1 X dX12_sheet_58 (by decide) ?_
        refine gr_icmp_ne 68 X dX12_sheet_59 (by decide) (fun h4 => ?_) (fun h4 => ?_)
        · rw [if_pos h4] at hf
          refine gr_iload X dX12_sheet_62 4 rfl ?_
          refine gr_i2s X dX12_sheet_64 ?_
          refine gr_goto 70 X dX12_sheet_65 (by decide) ?_
          exact b12_sheet_70 X hc hE ih _ _ _ _ _ _ _ hf
        · rw [if_neg h4] at hf
          refine gr_iload X dX12_sheet_68 4 rfl ?_
          exact b12_sheet_70 X hc hE ih _ _ _ _ _ _ _ hf

def f12_sheet (a0 : Int32) (a1 : Int32) (a2 : Int32) (a3 : Int32) (M0 : gz_M) : Option (Int32 × gz_M) := gz_lt (gz_w M0 0 5 0) fun M1 => gz_bd2 (f12_in a0 0 3 M1) fun v2 M3 => if v2 = 0 then (some ((-1), M3)) else (if a1 ≤ 24 then (if 3 ≤ a0 then (f12_sheet_40 gz_FU a0 a1 a3 a2 0 M3) else (if 0 ≤ a1 then (f12_sheet_40 gz_FU a0 a1 a3 a2 0 M3) else (some ((-2), M3)))) else (some ((-1), M3)))
set_option maxRecDepth 100000 in
theorem c12_sheet {pf : Nat → Bool} {l : Launch} {r : Int32} {M0 M' : gz_M} {a0 : Int32} {a1 : Int32} {a2 : Int32} {a3 : Int32} (hf : f12_sheet a0 a1 a2 a3 M0 = some (r, M')) : gz_CI l gz_cfR yX12_sheet cX12_sheet 8 2 .int (fun ad => [.ref (ad 0), .int a0, .int a1, .int a2, .int a3]) pf M0 r M' := by
  refine gz_ofI (by decide +kernel) (fun _ => Nat.le_of_ble_eq_true rfl) (fun x X hc hE => ?_)
  show gz_At x 0 [(0, .ref (gx_ad x 0)), (1, .int a0), (2, .int a1), (3, .int a2), (4, .int a3)] [] M0
  unfold f12_sheet at hf
  refine gr_aload_n X dX12_sheet_0 0 rfl rfl ?_
  refine gr_iconst 0 X dX12_sheet_1 (by decide) ?_
  obtain ⟨M1, eM1, hf⟩ := gz_lte hf
  refine gp12_5 X wf_RX12_123 eM1 dX12_sheet_2 ?_
  refine gr_iload_n X dX12_sheet_5 1 rfl rfl ?_
  refine gr_iconst 0 X dX12_sheet_6 (by decide) ?_
  refine gr_iconst 3 X dX12_sheet_7 (by decide) ?_
  obtain ⟨v2, M3, q4, hf⟩ := gz_bd2e hf
  refine gr_callSI (asF := fun _ => [.int a0, .int 0, .int 3]) [.int a0, .int 0, .int 3] X (c12_in q4) rfl wm_RX12_133 rfl (by decide) (by decide) rfl (Nat.le_of_ble_eq_true rfl) hc dX12_sheet_8 ?_
  refine gr_if_eq 20 X dX12_sheet_11 (by decide) (fun h5 => ?_) (fun h5 => ?_)
  · rw [if_pos h5] at hf
    refine gr_iconst (-1) X dX12_sheet_20 (by decide) ?_
    exact gz_EIu hE hf rfl dX12_sheet_21
  · rw [if_neg h5] at hf
    refine gr_iload_n X dX12_sheet_14 2 rfl rfl ?_
    refine gr_bipush 24 X dX12_sheet_15 (by decide) ?_
    refine gr_icmp_le 22 X dX12_sheet_17 (by decide) (fun h6 => ?_) (fun h6 => ?_)
    · rw [if_pos h6] at hf
      refine gr_iload_n X dX12_sheet_22 1 rfl rfl ?_
      refine gr_iconst 3 X dX12_sheet_23 (by decide) ?_
      refine gr_icmp_ge 34 X dX12_sheet_24 (by decide) (fun h7 => ?_) (fun h7 => ?_)
      · rw [if_pos h7] at hf
        refine gr_iload_n X dX12_sheet_34 3 rfl rfl ?_
        refine gr_istore [(5, .int a2), (0, .ref (gx_ad x 0)), (1, .int a0), (2, .int a1), (3, .int a2), (4, .int a3)] X dX12_sheet_35 rfl (by decide) rfl ?_
        refine gr_iconst 0 X dX12_sheet_37 (by decide) ?_
        refine gr_istore [(6, .int 0), (5, .int a2), (0, .ref (gx_ad x 0)), (1, .int a0), (2, .int a1), (3, .int a2), (4, .int a3)] X dX12_sheet_38 rfl (by decide) rfl ?_
        refine gr_sub (lv' := [(0, .ref (gx_ad x 0)), (1, .int a0), (2, .int a1), (4, .int a3), (5, .int a2), (6, .int 0)]) [2, 3, 4, 6, 1, 0] rfl ?_
        exact b12_sheet_40 X hc hE _ _ _ _ _ _ _ hf
      · rw [if_neg h7] at hf
        refine gr_iload_n X dX12_sheet_27 2 rfl rfl ?_
        refine gr_if_ge 34 X dX12_sheet_28 (by decide) (fun h8 => ?_) (fun h8 => ?_)
        · rw [if_pos h8] at hf
          refine gr_iload_n X dX12_sheet_34 3 rfl rfl ?_
          refine gr_istore [(5, .int a2), (0, .ref (gx_ad x 0)), (1, .int a0), (2, .int a1), (3, .int a2), (4, .int a3)] X dX12_sheet_35 rfl (by decide) rfl ?_
          refine gr_iconst 0 X dX12_sheet_37 (by decide) ?_
          refine gr_istore [(6, .int 0), (5, .int a2), (0, .ref (gx_ad x 0)), (1, .int a0), (2, .int a1), (3, .int a2), (4, .int a3)] X dX12_sheet_38 rfl (by decide) rfl ?_
          refine gr_sub (lv' := [(0, .ref (gx_ad x 0)), (1, .int a0), (2, .int a1), (4, .int a3), (5, .int a2), (6, .int 0)]) [2, 3, 4, 6, 1, 0] rfl ?_
          exact b12_sheet_40 X hc hE _ _ _ _ _ _ _ hf
        · rw [if_neg h8] at hf
          refine gr_bipush (-2) X dX12_sheet_31 (by decide) ?_
          exact gz_EIu hE hf rfl dX12_sheet_33
    · rw [if_neg h6] at hf
      refine gr_iconst (-1) X dX12_sheet_20 (by decide) ?_
      exact gz_EIu hE hf rfl dX12_sheet_21

def f12_step_108 : Nat → Int32 → Int32 → Int32 → Int32 → Int32 → gz_M → Option (Int32 × gz_M)
  | 0, _, _, _, _, _, _ => none
  | n + 1, x1, x4, x5, x6, x7, M0 => gz_ck (gz_inb x1 4) <| if (M0.1 12 x1.toNatClampNeg) ≤ x7 then (some (x6, M0)) else (if ((gz_shr x5 x7) &&& 1) = 1 then (gz_ck (gz_inb ((10 * x1) + x7) 40) <| if (M0.1 13 ((10 * x1) + x7).toNatClampNeg) = 8 then (gz_lt (x6 ||| (gz_shl 1 x7)) fun v6 => gz_lt (x7 + 1) fun v7 => f12_step_108 n x1 x4 x5 v6 v7 M0) else (gz_ck (gz_inb ((10 * x1) + x7) 40) <| if (M0.1 13 ((10 * x1) + x7).toNatClampNeg) = x4 then (gz_lt (x6 ||| (gz_shl 1 x7)) fun v10 => gz_lt (x7 + 1) fun v11 => f12_step_108 n x1 x4 x5 v10 v11 M0) else (gz_lt (x7 + 1) fun v12 => f12_step_108 n x1 x4 x5 x6 v12 M0))) else (gz_lt (x7 + 1) fun v13 => f12_step_108 n x1 x4 x5 x6 v13 M0))
theorem b12_step_108 {x : gz_X} {pf : Nat → Bool} {l : Launch} {r : Int32} {M' : gz_M} (X : gz_Ok x cX12_step RX12 8 1 gz_cfR pf l) (hc : gx_cells x ≤ (gx_R x).cells ∧ gx_slots x ≤ (gx_R x).slots) (hE : gz_EI x cX12_step .int r M') : ∀ (n : Nat) (x1 : Int32) (x4 : Int32) (x5 : Int32) (x6 : Int32) (x7 : Int32) (M0 : gz_M), f12_step_108 n x1 x4 x5 x6 x7 M0 = some (r, M') → gz_At x 108 [(0, .ref (gx_ad x 0)), (1, .int x1), (4, .int x4), (5, .int x5), (6, .int x6), (7, .int x7)] [] M0 := by
  intro n
  induction n with
  | zero =>
    intro x1 x4 x5 x6 x7 M0  hf
    rw [f12_step_108] at hf
    cases hf
  | succ n ih =>
    intro x1 x4 x5 x6 x7 M0  hf
    rw [f12_step_108] at hf
    refine gr_iload X dX12_step_108 5 rfl ?_
    refine gr_aload_n X dX12_step_110 0 rfl rfl ?_
    refine gf12_18 X wf_RX12_46 dX12_step_111 ?_
    refine gr_iload_n X dX12_step_114 1 rfl rfl ?_
    obtain ⟨h1, hf⟩ := gz_cke hf
    refine gr_iaload X gk_R12 (gz_inp h1) dX12_step_115 ?_
    refine gr_icmp_ge 179 X dX12_step_116 (by decide) (fun h2 => ?_) (fun h2 => ?_)
    · rw [if_pos h2] at hf
      refine gr_iload X dX12_step_179 4 rfl ?_
      exact gz_EIu hE hf rfl dX12_step_181
    · rw [if_neg h2] at hf
      refine gr_iload X dX12_step_119 3 rfl ?_
      refine gr_iload X dX12_step_121 5 rfl ?_
      refine gr_ishr X dX12_step_123 ?_
      refine gr_iconst 1 X dX12_step_124 (by decide) ?_
      refine gr_iand X dX12_step_125 ?_
      refine gr_iconst 1 X dX12_step_126 (by decide) ?_
      refine gr_icmp_ne 173 X dX12_step_127 (by decide) (fun h3 => ?_) (fun h3 => ?_)
      · rw [if_pos h3] at hf
        refine gr_aload_n X dX12_step_130 0 rfl rfl ?_
        refine gf12_19 X wf_RX12_49 dX12_step_131 ?_
        refine gr_bipush 10 X dX12_step_134 (by decide) ?_
        refine gr_iload_n X dX12_step_136 1 rfl rfl ?_
        refine gr_imul X dX12_step_137 ?_
        refine gr_iload X dX12_step_138 5 rfl ?_
        refine gr_iadd X dX12_step_140 ?_
        obtain ⟨h4, hf⟩ := gz_cke hf
        refine gr_iaload X gk_R13 (gz_inp h4) dX12_step_141 ?_
        refine gr_bipush 8 X dX12_step_142 (by decide) ?_
        refine gr_icmp_eq 164 X dX12_step_144 (by decide) (fun h5 => ?_) (fun h5 => ?_)
        · rw [if_pos h5] at hf
          refine gr_iload X dX12_step_164 4 rfl ?_
          refine gr_iconst 1 X dX12_step_166 (by decide) ?_
          refine gr_iload X dX12_step_167 5 rfl ?_
          refine gr_ishl X dX12_step_169 ?_
          refine gr_ior X dX12_step_170 ?_
          obtain ⟨v6, ev6, hf⟩ := gz_lte hf
          refine gr_istore [(6, .int v6), (0, .ref (gx_ad x 0)), (1, .int x1), (4, .int x4), (5, .int x5), (7, .int x7)] X dX12_step_171 ev6 (by decide) rfl ?_
          obtain ⟨v7, ev7, hf⟩ := gz_lte hf
          refine gr_iinc 1 [(7, .int v7), (6, .int v6), (0, .ref (gx_ad x 0)), (1, .int x1), (4, .int x4), (5, .int x5)] X dX12_step_173 5 rfl (by decide) ev7 (by decide) rfl ?_
          refine gr_goto 108 X dX12_step_176 (by decide) ?_
          refine gr_sub (lv' := [(0, .ref (gx_ad x 0)), (1, .int x1), (4, .int x4), (5, .int x5), (6, .int v6), (7, .int v7)]) [2, 3, 4, 5, 1, 0] rfl ?_
          exact ih _ _ _ _ _ _ hf
        · rw [if_neg h5] at hf
          refine gr_aload_n X dX12_step_147 0 rfl rfl ?_
          refine gf12_19 X wf_RX12_49 dX12_step_148 ?_
          refine gr_bipush 10 X dX12_step_151 (by decide) ?_
          refine gr_iload_n X dX12_step_153 1 rfl rfl ?_
          refine gr_imul X dX12_step_154 ?_
          refine gr_iload X dX12_step_155 5 rfl ?_
          refine gr_iadd X dX12_step_157 ?_
          obtain ⟨h8, hf⟩ := gz_cke hf
          refine gr_iaload X gk_R13 (gz_inp h8) dX12_step_158 ?_
          refine gr_iload X dX12_step_159 2 rfl ?_
          refine gr_icmp_ne 173 X dX12_step_161 (by decide) (fun h9 => ?_) (fun h9 => ?_)
          · rw [if_pos h9] at hf
            refine gr_iload X dX12_step_164 4 rfl ?_
            refine gr_iconst 1 X dX12_step_166 (by decide) ?_
            refine gr_iload X dX12_step_167 5 rfl ?_
            refine gr_ishl X dX12_step_169 ?_
            refine gr_ior X dX12_step_170 ?_
            obtain ⟨v10, ev10, hf⟩ := gz_lte hf
            refine gr_istore [(6, .int v10), (0, .ref (gx_ad x 0)), (1, .int x1), (4, .int x4), (5, .int x5), (7, .int x7)] X dX12_step_171 ev10 (by decide) rfl ?_
            obtain ⟨v11, ev11, hf⟩ := gz_lte hf
            refine gr_iinc 1 [(7, .int v11), (6, .int v10), (0, .ref (gx_ad x 0)), (1, .int x1), (4, .int x4), (5, .int x5)] X dX12_step_173 5 rfl (by decide) ev11 (by decide) rfl ?_
            refine gr_goto 108 X dX12_step_176 (by decide) ?_
            refine gr_sub (lv' := [(0, .ref (gx_ad x 0)), (1, .int x1), (4, .int x4), (5, .int x5), (6, .int v10), (7, .int v11)]) [2, 3, 4, 5, 1, 0] rfl ?_
            exact ih _ _ _ _ _ _ hf
          · rw [if_neg h9] at hf
            obtain ⟨v12, ev12, hf⟩ := gz_lte hf
            refine gr_iinc 1 [(7, .int v12), (0, .ref (gx_ad x 0)), (1, .int x1), (4, .int x4), (5, .int x5), (6, .int x6)] X dX12_step_173 5 rfl (by decide) ev12 (by decide) rfl ?_
            refine gr_goto 108 X dX12_step_176 (by decide) ?_
            refine gr_sub (lv' := [(0, .ref (gx_ad x 0)), (1, .int x1), (4, .int x4), (5, .int x5), (6, .int x6), (7, .int v12)]) [1, 2, 3, 4, 5, 0] rfl ?_
            exact ih _ _ _ _ _ _ hf
      · rw [if_neg h3] at hf
        obtain ⟨v13, ev13, hf⟩ := gz_lte hf
        refine gr_iinc 1 [(7, .int v13), (0, .ref (gx_ad x 0)), (1, .int x1), (4, .int x4), (5, .int x5), (6, .int x6)] X dX12_step_173 5 rfl (by decide) ev13 (by decide) rfl ?_
        refine gr_goto 108 X dX12_step_176 (by decide) ?_
        refine gr_sub (lv' := [(0, .ref (gx_ad x 0)), (1, .int x1), (4, .int x4), (5, .int x5), (6, .int x6), (7, .int v13)]) [1, 2, 3, 4, 5, 0] rfl ?_
        exact ih _ _ _ _ _ _ hf

def f12_step_58 : Nat → Int32 → Int32 → Int32 → Int32 → Int32 → gz_M → Option (Int32 × gz_M)
  | 0, _, _, _, _, _, _ => none
  | n + 1, x1, x2, x4, x5, x6, M0 => if 10 ≤ x6 then (f12_step_108 gz_FU x1 x4 x5 0 0 M0) else (if ((gz_shr x2 x6) &&& 1) = 1 then (gz_ck (gz_inb ((10 * x1) + x6) 40) <| gz_lt (x5 ||| (M0.1 14 ((10 * x1) + x6).toNatClampNeg)) fun v4 => gz_lt (x6 + 1) fun v5 => f12_step_58 n x1 x2 x4 v4 v5 M0) else (gz_lt (x5 ||| 0) fun v6 => gz_lt (x6 + 1) fun v7 => f12_step_58 n x1 x2 x4 v6 v7 M0))
theorem b12_step_58 {x : gz_X} {pf : Nat → Bool} {l : Launch} {r : Int32} {M' : gz_M} (X : gz_Ok x cX12_step RX12 8 1 gz_cfR pf l) (hc : gx_cells x ≤ (gx_R x).cells ∧ gx_slots x ≤ (gx_R x).slots) (hE : gz_EI x cX12_step .int r M') : ∀ (n : Nat) (x1 : Int32) (x2 : Int32) (x4 : Int32) (x5 : Int32) (x6 : Int32) (M0 : gz_M), f12_step_58 n x1 x2 x4 x5 x6 M0 = some (r, M') → gz_At x 58 [(0, .ref (gx_ad x 0)), (1, .int x1), (2, .int x2), (4, .int x4), (5, .int x5), (6, .int x6)] [] M0 := by
  intro n
  induction n with
  | zero =>
    intro x1 x2 x4 x5 x6 M0  hf
    rw [f12_step_58] at hf
    cases hf
  | succ n ih =>
    intro x1 x2 x4 x5 x6 M0  hf
    rw [f12_step_58] at hf
    refine gr_iload X dX12_step_58 5 rfl ?_
    refine gr_bipush 10 X dX12_step_60 (by decide) ?_
    refine gr_icmp_ge 102 X dX12_step_62 (by decide) (fun h1 => ?_) (fun h1 => ?_)
    · rw [if_pos h1] at hf
      refine gr_iconst 0 X dX12_step_102 (by decide) ?_
      refine gr_istore [(6, .int 0), (0, .ref (gx_ad x 0)), (1, .int x1), (2, .int x2), (4, .int x4), (5, .int x5)] X dX12_step_103 rfl (by decide) rfl ?_
      refine gr_iconst 0 X dX12_step_105 (by decide) ?_
      refine gr_istore [(7, .int 0), (6, .int 0), (0, .ref (gx_ad x 0)), (1, .int x1), (2, .int x2), (4, .int x4), (5, .int x5)] X dX12_step_106 rfl (by decide) rfl ?_
      refine gr_sub (lv' := [(0, .ref (gx_ad x 0)), (1, .int x1), (4, .int x4), (5, .int x5), (6, .int 0), (7, .int 0)]) [2, 3, 5, 6, 1, 0] rfl ?_
      exact b12_step_108 X hc hE _ _ _ _ _ _ _ hf
    · rw [if_neg h1] at hf
      refine gr_iload X dX12_step_65 4 rfl ?_
      refine gr_iload_n X dX12_step_67 2 rfl rfl ?_
      refine gr_iload X dX12_step_68 5 rfl ?_
      refine gr_ishr X dX12_step_70 ?_
      refine gr_iconst 1 X dX12_step_71 (by decide) ?_
      refine gr_iand X dX12_step_72 ?_
      refine gr_iconst 1 X dX12_step_73 (by decide) ?_
      refine gr_icmp_ne 92 X dX12_step_74 (by decide) (fun h2 => ?_) (fun h2 => ?_)
      · rw [if_pos h2] at hf
        refine gr_aload_n X dX12_step_77 0 rfl rfl ?_
        refine gf12_20 X wf_RX12_52 dX12_step_78 ?_
        refine gr_bipush 10 X dX12_step_81 (by decide) ?_
        refine gr_iload_n X dX12_step_83 1 rfl rfl ?_
        refine gr_imul X dX12_step_84 ?_
        refine gr_iload X dX12_step_85 5 rfl ?_
        refine gr_iadd X dX12_step_87 ?_
        obtain ⟨h3, hf⟩ := gz_cke hf
        refine gr_iaload X gk_R14 (gz_inp h3) dX12_step_88 ?_
        refine gr_goto 93 X dX12_step_89 (by decide) ?_
        refine gr_ior X dX12_step_93 ?_
        obtain ⟨v4, ev4, hf⟩ := gz_lte hf
        refine gr_istore [(5, .int v4), (0, .ref (gx_ad x 0)), (1, .int x1), (2, .int x2), (4, .int x4), (6, .int x6)] X dX12_step_94 ev4 (by decide) rfl ?_
        obtain ⟨v5, ev5, hf⟩ := gz_lte hf
        refine gr_iinc 1 [(6, .int v5), (5, .int v4), (0, .ref (gx_ad x 0)), (1, .int x1), (2, .int x2), (4, .int x4)] X dX12_step_96 5 rfl (by decide) ev5 (by decide) rfl ?_
        refine gr_goto 58 X dX12_step_99 (by decide) ?_
        refine gr_sub (lv' := [(0, .ref (gx_ad x 0)), (1, .int x1), (2, .int x2), (4, .int x4), (5, .int v4), (6, .int v5)]) [2, 3, 4, 5, 1, 0] rfl ?_
        exact ih _ _ _ _ _ _ hf
      · rw [if_neg h2] at hf
        refine gr_iconst 0 X dX12_step_92 (by decide) ?_
        refine gr_ior X dX12_step_93 ?_
        obtain ⟨v6, ev6, hf⟩ := gz_lte hf
        refine gr_istore [(5, .int v6), (0, .ref (gx_ad x 0)), (1, .int x1), (2, .int x2), (4, .int x4), (6, .int x6)] X dX12_step_94 ev6 (by decide) rfl ?_
        obtain ⟨v7, ev7, hf⟩ := gz_lte hf
        refine gr_iinc 1 [(6, .int v7), (5, .int v6), (0, .ref (gx_ad x 0)), (1, .int x1), (2, .int x2), (4, .int x4)] X dX12_step_96 5 rfl (by decide) ev7 (by decide) rfl ?_
        refine gr_goto 58 X dX12_step_99 (by decide) ?_
        refine gr_sub (lv' := [(0, .ref (gx_ad x 0)), (1, .int x1), (2, .int x2), (4, .int x4), (5, .int v6), (6, .int v7)]) [2, 3, 4, 5, 1, 0] rfl ?_
        exact ih _ _ _ _ _ _ hf

def f12_step_10 : Nat → Int32 → Int32 → Int32 → Int32 → gz_M → Option (Int32 × gz_M)
  | 0, _, _, _, _, _ => none
  | n + 1, x1, x4, x5, x6, M0 => if (M0.1 0 10) ≤ x6 then (f12_step_108 gz_FU x1 x4 x5 0 0 M0) else (gz_ck (gz_inb x6 8) <| if (M0.1 5 x6.toNatClampNeg) = x1 then (gz_ck (gz_inb x6 8) <| gz_lt (x5 ||| (M0.1 10 x6.toNatClampNeg)) fun v5 => gz_lt (x6 + 1) fun v6 => f12_step_10 n x1 x4 v5 v6 M0) else (gz_lt (x5 ||| 0) fun v7 => gz_lt (x6 + 1) fun v8 => f12_step_10 n x1 x4 v7 v8 M0))
theorem b12_step_10 {x : gz_X} {pf : Nat → Bool} {l : Launch} {r : Int32} {M' : gz_M} (X : gz_Ok x cX12_step RX12 8 1 gz_cfR pf l) (hc : gx_cells x ≤ (gx_R x).cells ∧ gx_slots x ≤ (gx_R x).slots) (hE : gz_EI x cX12_step .int r M') : ∀ (n : Nat) (x1 : Int32) (x4 : Int32) (x5 : Int32) (x6 : Int32) (M0 : gz_M), f12_step_10 n x1 x4 x5 x6 M0 = some (r, M') → gz_At x 10 [(0, .ref (gx_ad x 0)), (1, .int x1), (4, .int x4), (5, .int x5), (6, .int x6)] [] M0 := by
  intro n
  induction n with
  | zero =>
    intro x1 x4 x5 x6 M0  hf
    rw [f12_step_10] at hf
    cases hf
  | succ n ih =>
    intro x1 x4 x5 x6 M0  hf
    rw [f12_step_10] at hf
    refine gr_iload X dX12_step_10 4 rfl ?_
    refine gr_aload_n X dX12_step_12 0 rfl rfl ?_
    refine gf12_10 X wf_RX12_202 dX12_step_13 ?_
    refine gr_icmp_ge 52 X dX12_step_16 (by decide) (fun h1 => ?_) (fun h1 => ?_)
    · rw [if_pos h1] at hf
      refine gr_goto 102 X dX12_step_52 (by decide) ?_
      refine gr_iconst 0 X dX12_step_102 (by decide) ?_
      refine gr_istore [(6, .int 0), (0, .ref (gx_ad x 0)), (1, .int x1), (4, .int x4), (5, .int x5)] X dX12_step_103 rfl (by decide) rfl ?_
      refine gr_iconst 0 X dX12_step_105 (by decide) ?_
      refine gr_istore [(7, .int 0), (6, .int 0), (0, .ref (gx_ad x 0)), (1, .int x1), (4, .int x4), (5, .int x5)] X dX12_step_106 rfl (by decide) rfl ?_
      refine gr_sub (lv' := [(0, .ref (gx_ad x 0)), (1, .int x1), (4, .int x4), (5, .int x5), (6, .int 0), (7, .int 0)]) [2, 3, 4, 5, 1, 0] rfl ?_
      exact b12_step_108 X hc hE _ _ _ _ _ _ _ hf
    · rw [if_neg h1] at hf
      refine gr_iload X dX12_step_19 3 rfl ?_
      refine gr_aload_n X dX12_step_21 0 rfl rfl ?_
      refine gf12_11 X wf_RX12_24 dX12_step_22 ?_
      refine gr_iload X dX12_step_25 4 rfl ?_
      obtain ⟨h2, hf⟩ := gz_cke hf
      refine gr_iaload X gk_R5 (gz_inp h2) dX12_step_27 ?_
      refine gr_iload_n X dX12_step_28 1 rfl rfl ?_
      refine gr_icmp_ne 42 X dX12_step_29 (by decide) (fun h3 => ?_) (fun h3 => ?_)
      · rw [if_pos h3] at hf
        refine gr_aload_n X dX12_step_32 0 rfl rfl ?_
        refine gf12_16 X wf_RX12_40 dX12_step_33 ?_
        refine gr_iload X dX12_step_36 4 rfl ?_
        obtain ⟨h4, hf⟩ := gz_cke hf
        refine gr_iaload X gk_R10 (gz_inp h4) dX12_step_38 ?_
        refine gr_goto 43 X dX12_step_39 (by decide) ?_
        refine gr_ior X dX12_step_43 ?_
        obtain ⟨v5, ev5, hf⟩ := gz_lte hf
        refine gr_istore [(5, .int v5), (0, .ref (gx_ad x 0)), (1, .int x1), (4, .int x4), (6, .int x6)] X dX12_step_44 ev5 (by decide) rfl ?_
        obtain ⟨v6, ev6, hf⟩ := gz_lte hf
        refine gr_iinc 1 [(6, .int v6), (5, .int v5), (0, .ref (gx_ad x 0)), (1, .int x1), (4, .int x4)] X dX12_step_46 4 rfl (by decide) ev6 (by decide) rfl ?_
        refine gr_goto 10 X dX12_step_49 (by decide) ?_
        refine gr_sub (lv' := [(0, .ref (gx_ad x 0)), (1, .int x1), (4, .int x4), (5, .int v5), (6, .int v6)]) [2, 3, 4, 1, 0] rfl ?_
        exact ih _ _ _ _ _ hf
      · rw [if_neg h3] at hf
        refine gr_iconst 0 X dX12_step_42 (by decide) ?_
        refine gr_ior X dX12_step_43 ?_
        obtain ⟨v7, ev7, hf⟩ := gz_lte hf
        refine gr_istore [(5, .int v7), (0, .ref (gx_ad x 0)), (1, .int x1), (4, .int x4), (6, .int x6)] X dX12_step_44 ev7 (by decide) rfl ?_
        obtain ⟨v8, ev8, hf⟩ := gz_lte hf
        refine gr_iinc 1 [(6, .int v8), (5, .int v7), (0, .ref (gx_ad x 0)), (1, .int x1), (4, .int x4)] X dX12_step_46 4 rfl (by decide) ev8 (by decide) rfl ?_
        refine gr_goto 10 X dX12_step_49 (by decide) ?_
        refine gr_sub (lv' := [(0, .ref (gx_ad x 0)), (1, .int x1), (4, .int x4), (5, .int v7), (6, .int v8)]) [2, 3, 4, 1, 0] rfl ?_
        exact ih _ _ _ _ _ hf

def f12_step (a0 : Int32) (a1 : Int32) (a2 : Int32) (a3 : Int32) (M0 : gz_M) : Option (Int32 × gz_M) := if a2 = 0 then (f12_step_58 gz_FU a0 a1 a3 0 0 M0) else (f12_step_10 gz_FU a0 a3 0 0 M0)
set_option maxRecDepth 100000 in
theorem c12_step {pf : Nat → Bool} {l : Launch} {r : Int32} {M0 M' : gz_M} {a0 : Int32} {a1 : Int32} {a2 : Int32} {a3 : Int32} (hf : f12_step a0 a1 a2 a3 M0 = some (r, M')) : gz_CI l gz_cfR yX12_step cX12_step 8 1 .int (fun ad => [.ref (ad 0), .int a0, .int a1, .int a2, .int a3]) pf M0 r M' := by
  refine gz_ofI (by decide +kernel) (fun _ => Nat.le_of_ble_eq_true rfl) (fun x X hc hE => ?_)
  show gz_At x 0 [(0, .ref (gx_ad x 0)), (1, .int a0), (2, .int a1), (3, .int a2), (4, .int a3)] [] M0
  unfold f12_step at hf
  refine gr_iconst 0 X dX12_step_0 (by decide) ?_
  refine gr_istore [(5, .int 0), (0, .ref (gx_ad x 0)), (1, .int a0), (2, .int a1), (3, .int a2), (4, .int a3)] X dX12_step_1 rfl (by decide) rfl ?_
  refine gr_iload_n X dX12_step_3 4 rfl rfl ?_
  refine gr_if_eq 55 X dX12_step_4 (by decide) (fun h1 => ?_) (fun h1 => ?_)
  · rw [if_pos h1] at hf
    refine gr_iconst 0 X dX12_step_55 (by decide) ?_
    refine gr_istore [(6, .int 0), (5, .int 0), (0, .ref (gx_ad x 0)), (1, .int a0), (2, .int a1), (3, .int a2), (4, .int a3)] X dX12_step_56 rfl (by decide) rfl ?_
    refine gr_sub (lv' := [(0, .ref (gx_ad x 0)), (1, .int a0), (2, .int a1), (4, .int a3), (5, .int 0), (6, .int 0)]) [2, 3, 4, 6, 1, 0] rfl ?_
    exact b12_step_58 X hc hE _ _ _ _ _ _ _ hf
  · rw [if_neg h1] at hf
    refine gr_iconst 0 X dX12_step_7 (by decide) ?_
    refine gr_istore [(6, .int 0), (5, .int 0), (0, .ref (gx_ad x 0)), (1, .int a0), (2, .int a1), (3, .int a2), (4, .int a3)] X dX12_step_8 rfl (by decide) rfl ?_
    refine gr_sub (lv' := [(0, .ref (gx_ad x 0)), (1, .int a0), (4, .int a3), (5, .int 0), (6, .int 0)]) [2, 3, 6, 1, 0] rfl ?_
    exact b12_step_10 X hc hE _ _ _ _ _ _ hf

def f12_winner_2 : Nat → Int32 → Int32 → Int32 → gz_M → Option (Int32 × gz_M)
  | 0, _, _, _, _ => none
  | n + 1, x1, x2, x3, M0 => if (M0.1 0 10) ≤ x3 then (some ((-1), M0)) else (gz_ck (gz_inb x3 8) <| if (M0.1 5 x3.toNatClampNeg) = x1 then (gz_ck (gz_inb x3 8) <| if ((M0.1 11 x3.toNatClampNeg) &&& x2) = 0 then (gz_lt (x3 + 1) fun v6 => f12_winner_2 n x1 x2 v6 M0) else (some (x3, M0))) else (gz_lt (x3 + 1) fun v7 => f12_winner_2 n x1 x2 v7 M0))
theorem b12_winner_2 {x : gz_X} {pf : Nat → Bool} {l : Launch} {r : Int32} {M' : gz_M} (X : gz_Ok x cX12_winner RX12 4 1 gz_cfR pf l) (hc : gx_cells x ≤ (gx_R x).cells ∧ gx_slots x ≤ (gx_R x).slots) (hE : gz_EI x cX12_winner .int r M') : ∀ (n : Nat) (x1 : Int32) (x2 : Int32) (x3 : Int32) (M0 : gz_M), f12_winner_2 n x1 x2 x3 M0 = some (r, M') → gz_At x 2 [(0, .ref (gx_ad x 0)), (1, .int x1), (2, .int x2), (3, .int x3)] [] M0 := by
  intro n
  induction n with
  | zero =>
    intro x1 x2 x3 M0  hf
    rw [f12_winner_2] at hf
    cases hf
  | succ n ih =>
    intro x1 x2 x3 M0  hf
    rw [f12_winner_2] at hf
    refine gr_iload_n X dX12_winner_2 3 rfl rfl ?_
    refine gr_aload_n X dX12_winner_3 0 rfl rfl ?_
    refine gf12_10 X wf_RX12_202 dX12_winner_4 ?_
    refine gr_icmp_ge 39 X dX12_winner_7 (by decide) (fun h1 => ?_) (fun h1 => ?_)
    · rw [if_pos h1] at hf
      refine gr_iconst (-1) X dX12_winner_39 (by decide) ?_
      exact gz_EIu hE hf rfl dX12_winner_40
    · rw [if_neg h1] at hf
      refine gr_aload_n X dX12_winner_10 0 rfl rfl ?_
      refine gf12_11 X wf_RX12_24 dX12_winner_11 ?_
      refine gr_iload_n X dX12_winner_14 3 rfl rfl ?_
      obtain ⟨h2, hf⟩ := gz_cke hf
      refine gr_iaload X gk_R5 (gz_inp h2) dX12_winner_15 ?_
      refine gr_iload_n X dX12_winner_16 1 rfl rfl ?_
      refine gr_icmp_ne 33 X dX12_winner_17 (by decide) (fun h3 => ?_) (fun h3 => ?_)
      · rw [if_pos h3] at hf
        refine gr_aload_n X dX12_winner_20 0 rfl rfl ?_
        refine gf12_17 X wf_RX12_43 dX12_winner_21 ?_
        refine gr_iload_n X dX12_winner_24 3 rfl rfl ?_
        obtain ⟨h4, hf⟩ := gz_cke hf
        refine gr_iaload X gk_R11 (gz_inp h4) dX12_winner_25 ?_
        refine gr_iload_n X dX12_winner_26 2 rfl rfl ?_
        refine gr_iand X dX12_winner_27 ?_
        refine gr_if_eq 33 X dX12_winner_28 (by decide) (fun h5 => ?_) (fun h5 => ?_)
        · rw [if_pos h5] at hf
          obtain ⟨v6, ev6, hf⟩ := gz_lte hf
          refine gr_iinc 1 [(3, .int v6), (0, .ref (gx_ad x 0)), (1, .int x1), (2, .int x2)] X dX12_winner_33 3 rfl (by decide) ev6 (by decide) rfl ?_
          refine gr_goto 2 X dX12_winner_36 (by decide) ?_
          refine gr_sub (lv' := [(0, .ref (gx_ad x 0)), (1, .int x1), (2, .int x2), (3, .int v6)]) [1, 2, 3, 0] rfl ?_
          exact ih _ _ _ _ hf
        · rw [if_neg h5] at hf
          refine gr_iload_n X dX12_winner_31 3 rfl rfl ?_
          exact gz_EIu hE hf rfl dX12_winner_32
      · rw [if_neg h3] at hf
        obtain ⟨v7, ev7, hf⟩ := gz_lte hf
        refine gr_iinc 1 [(3, .int v7), (0, .ref (gx_ad x 0)), (1, .int x1), (2, .int x2)] X dX12_winner_33 3 rfl (by decide) ev7 (by decide) rfl ?_
        refine gr_goto 2 X dX12_winner_36 (by decide) ?_
        refine gr_sub (lv' := [(0, .ref (gx_ad x 0)), (1, .int x1), (2, .int x2), (3, .int v7)]) [1, 2, 3, 0] rfl ?_
        exact ih _ _ _ _ hf

def f12_winner (a0 : Int32) (a1 : Int32) (M0 : gz_M) : Option (Int32 × gz_M) := f12_winner_2 gz_FU a0 a1 0 M0
set_option maxRecDepth 100000 in
theorem c12_winner {pf : Nat → Bool} {l : Launch} {r : Int32} {M0 M' : gz_M} {a0 : Int32} {a1 : Int32} (hf : f12_winner a0 a1 M0 = some (r, M')) : gz_CI l gz_cfR yX12_winner cX12_winner 4 1 .int (fun ad => [.ref (ad 0), .int a0, .int a1]) pf M0 r M' := by
  refine gz_ofI (by decide +kernel) (fun _ => Nat.le_of_ble_eq_true rfl) (fun x X hc hE => ?_)
  show gz_At x 0 [(0, .ref (gx_ad x 0)), (1, .int a0), (2, .int a1)] [] M0
  unfold f12_winner at hf
  refine gr_iconst 0 X dX12_winner_0 (by decide) ?_
  refine gr_istore_n [(3, .int 0), (0, .ref (gx_ad x 0)), (1, .int a0), (2, .int a1)] X dX12_winner_1 rfl rfl (by decide) rfl ?_
  refine gr_sub (lv' := [(0, .ref (gx_ad x 0)), (1, .int a0), (2, .int a1), (3, .int 0)]) [1, 2, 3, 0] rfl ?_
  exact b12_winner_2 X hc hE _ _ _ _ _ hf

def f12_pairOf (a0 : Int32) (a1 : Int32) (a2 : Int32) (M0 : gz_M) : Option (Int32 × gz_M) := some ((((1024 * a0) + a1) * 25) + a2, M0)
set_option maxRecDepth 100000 in
theorem c12_pairOf {pf : Nat → Bool} {l : Launch} {r : Int32} {M0 M' : gz_M} {a0 : Int32} {a1 : Int32} {a2 : Int32} (hf : f12_pairOf a0 a1 a2 M0 = some (r, M')) : gz_CI l gz_cfR yX12_pairOf cX12_pairOf 3 1 .int (fun _ => [.int a0, .int a1, .int a2]) pf M0 r M' := by
  refine gz_ofI (by decide +kernel) (fun _ => Nat.le_of_ble_eq_true rfl) (fun x X hc hE => ?_)
  show gz_At x 0 [(0, .int a0), (1, .int a1), (2, .int a2)] [] M0
  unfold f12_pairOf at hf
  refine gr_sipush 1024 X dX12_pairOf_0 (by decide) ?_
  refine gr_iload_n X dX12_pairOf_3 0 rfl rfl ?_
  refine gr_imul X dX12_pairOf_4 ?_
  refine gr_iload_n X dX12_pairOf_5 1 rfl rfl ?_
  refine gr_iadd X dX12_pairOf_6 ?_
  refine gr_bipush 25 X dX12_pairOf_7 (by decide) ?_
  refine gr_imul X dX12_pairOf_9 ?_
  refine gr_iload_n X dX12_pairOf_10 2 rfl rfl ?_
  refine gr_iadd X dX12_pairOf_11 ?_
  exact gz_EIu hE hf rfl dX12_pairOf_12

def f12_atFirst (M0 : gz_M) : Option (gz_M) := gz_lt (gz_w M0 0 26 0) fun M1 => gz_lt (gz_w M1 0 28 1) fun M2 => gz_ck (gz_inb 0 5) <| gz_lt (gz_w M2 16 (0 : Int32).toNatClampNeg 0) fun M4 => gz_lt (gz_w M4 0 29 1) fun M5 => gz_lt (gz_w M5 0 31 0) fun M6 => gz_lt (gz_w M6 0 32 0) fun M7 => some M7
set_option maxRecDepth 100000 in
theorem c12_atFirst {pf : Nat → Bool} {l : Launch} {M0 M' : gz_M} (hf : f12_atFirst M0 = some M') : gz_CV l gz_cfR yX12_atFirst cX12_atFirst 1 1 (fun ad => [.ref (ad 0)]) pf M0 M' := by
  refine gz_ofV (by decide +kernel) (fun _ => Nat.le_of_ble_eq_true rfl) (fun x X hc hE => ?_)
  show gz_At x 0 [(0, .ref (gx_ad x 0))] [] M0
  unfold f12_atFirst at hf
  refine gr_aload_n X dX12_atFirst_0 0 rfl rfl ?_
  refine gr_iconst 0 X dX12_atFirst_1 (by decide) ?_
  obtain ⟨M1, eM1, hf⟩ := gz_lte hf
  refine gp12_26 X wf_RX12_229 eM1 dX12_atFirst_2 ?_
  refine gr_aload_n X dX12_atFirst_5 0 rfl rfl ?_
  refine gr_iconst 1 X dX12_atFirst_6 (by decide) ?_
  obtain ⟨M2, eM2, hf⟩ := gz_lte hf
  refine gp12_28 X wf_RX12_232 eM2 dX12_atFirst_7 ?_
  refine gr_aload_n X dX12_atFirst_10 0 rfl rfl ?_
  refine gf12_27 X wf_RX12_58 dX12_atFirst_11 ?_
  refine gr_iconst 0 X dX12_atFirst_14 (by decide) ?_
  refine gr_iconst 0 X dX12_atFirst_15 (by decide) ?_
  obtain ⟨h3, hf⟩ := gz_cke hf
  obtain ⟨M4, eM4, hf⟩ := gz_lte hf
  refine gr_iastore X gk_R16 (gz_inp h3) eM4 dX12_atFirst_16 ?_
  refine gr_aload_n X dX12_atFirst_17 0 rfl rfl ?_
  refine gr_iconst 1 X dX12_atFirst_18 (by decide) ?_
  obtain ⟨M5, eM5, hf⟩ := gz_lte hf
  refine gp12_29 X wf_RX12_235 eM5 dX12_atFirst_19 ?_
  refine gr_aload_n X dX12_atFirst_22 0 rfl rfl ?_
  refine gr_iconst 0 X dX12_atFirst_23 (by decide) ?_
  obtain ⟨M6, eM6, hf⟩ := gz_lte hf
  refine gp12_31 X wf_RX12_238 eM6 dX12_atFirst_24 ?_
  refine gr_aload_n X dX12_atFirst_27 0 rfl rfl ?_
  refine gr_iconst 0 X dX12_atFirst_28 (by decide) ?_
  obtain ⟨M7, eM7, hf⟩ := gz_lte hf
  refine gp12_32 X wf_RX12_241 eM7 dX12_atFirst_29 ?_
  exact gz_EVu hE hf dX12_atFirst_32

def f12_doAct_111 (x1 : Int32) (M0 : gz_M) : Option (gz_M) := gz_ck (gz_inb x1 8) <| gz_ck (gz_inb (M0.1 0 28) 5) <| gz_lt (gz_w M0 16 (M0.1 0 28).toNatClampNeg (M0.1 8 x1.toNatClampNeg)) fun M3 => gz_lt (gz_w M3 0 28 ((M3.1 0 28) + 1)) fun M4 => gz_lt (gz_w M4 0 29 (gz_max (M4.1 0 29) (M4.1 0 28))) fun M5 => some M5
theorem b12_doAct_111 {x : gz_X} {pf : Nat → Bool} {l : Launch} {M' : gz_M} (X : gz_Ok x cX12_doAct RX12 3 1 gz_cfR pf l) (hc : gx_cells x ≤ (gx_R x).cells ∧ gx_slots x ≤ (gx_R x).slots) (hE : gz_EV x cX12_doAct M') : ∀ (x1 : Int32) (M0 : gz_M), f12_doAct_111 x1 M0 = some M' → gz_At x 111 [(0, .ref (gx_ad x 0)), (1, .int x1)] [] M0 := by
  intro x1 M0  hf
  rw [f12_doAct_111] at hf
  refine gr_aload_n X dX12_doAct_111 0 rfl rfl ?_
  refine gf12_27 X wf_RX12_58 dX12_doAct_112 ?_
  refine gr_aload_n X dX12_doAct_115 0 rfl rfl ?_
  refine gf12_28 X wf_RX12_232 dX12_doAct_116 ?_
  refine gr_aload_n X dX12_doAct_119 0 rfl rfl ?_
  refine gf12_14 X wf_RX12_33 dX12_doAct_120 ?_
  refine gr_iload_n X dX12_doAct_123 1 rfl rfl ?_
  obtain ⟨h1, hf⟩ := gz_cke hf
  refine gr_iaload X gk_R8 (gz_inp h1) dX12_doAct_124 ?_
  obtain ⟨h2, hf⟩ := gz_cke hf
  obtain ⟨M3, eM3, hf⟩ := gz_lte hf
  refine gr_iastore X gk_R16 (gz_inp h2) eM3 dX12_doAct_125 ?_
  refine gr_aload_n X dX12_doAct_126 0 rfl rfl ?_
  refine gr_dup X dX12_doAct_127 rfl ?_
  refine gf12_28 X wf_RX12_232 dX12_doAct_128 ?_
  refine gr_iconst 1 X dX12_doAct_131 (by decide) ?_
  refine gr_iadd X dX12_doAct_132 ?_
  obtain ⟨M4, eM4, hf⟩ := gz_lte hf
  refine gp12_28 X wf_RX12_232 eM4 dX12_doAct_133 ?_
  refine gr_aload_n X dX12_doAct_136 0 rfl rfl ?_
  refine gr_aload_n X dX12_doAct_137 0 rfl rfl ?_
  refine gf12_29 X wf_RX12_235 dX12_doAct_138 ?_
  refine gr_aload_n X dX12_doAct_141 0 rfl rfl ?_
  refine gf12_28 X wf_RX12_232 dX12_doAct_142 ?_
  refine gr_mmax X (by decide) wl_RX12_244 hc (Nat.le_of_ble_eq_true rfl) dX12_doAct_145 ?_
  obtain ⟨M5, eM5, hf⟩ := gz_lte hf
  refine gp12_29 X wf_RX12_235 eM5 dX12_doAct_148 ?_
  exact gz_EVu hE hf dX12_doAct_151

def f12_doAct_76 : Nat → Int32 → Int32 → gz_M → Option (gz_M)
  | 0, _, _, _ => none
  | n + 1, x1, x2, M0 => if 5 ≤ x2 then (gz_lt (gz_w M0 0 28 ((M0.1 0 28) - 1)) fun M2 => f12_doAct_111 x1 M2) else (gz_ck (gz_inb x2 5) <| gz_ck (gz_inb (x2 - 1) 5) <| gz_lt (gz_w M0 16 (x2 - 1).toNatClampNeg (M0.1 16 x2.toNatClampNeg)) fun M5 => gz_lt (x2 + 1) fun v6 => f12_doAct_76 n x1 v6 M5)
theorem b12_doAct_76 {x : gz_X} {pf : Nat → Bool} {l : Launch} {M' : gz_M} (X : gz_Ok x cX12_doAct RX12 3 1 gz_cfR pf l) (hc : gx_cells x ≤ (gx_R x).cells ∧ gx_slots x ≤ (gx_R x).slots) (hE : gz_EV x cX12_doAct M') : ∀ (n : Nat) (x1 : Int32) (x2 : Int32) (M0 : gz_M), f12_doAct_76 n x1 x2 M0 = some M' → gz_At x 76 [(0, .ref (gx_ad x 0)), (1, .int x1), (2, .int x2)] [] M0 := by
  intro n
  induction n with
  | zero =>
    intro x1 x2 M0  hf
    rw [f12_doAct_76] at hf
    cases hf
  | succ n ih =>
    intro x1 x2 M0  hf
    rw [f12_doAct_76] at hf
    refine gr_iload_n X dX12_doAct_76 2 rfl rfl ?_
    refine gr_iconst 5 X dX12_doAct_77 (by decide) ?_
    refine gr_icmp_ge 101 X dX12_doAct_78 (by decide) (fun h1 => ?_) (fun h1 => ?_)
    · rw [if_pos h1] at hf
      refine gr_aload_n X dX12_doAct_101 0 rfl rfl ?_
      refine gr_dup X dX12_doAct_102 rfl ?_
      refine gf12_28 X wf_RX12_232 dX12_doAct_103 ?_
      refine gr_iconst 1 X dX12_doAct_106 (by decide) ?_
      refine gr_isub X dX12_doAct_107 ?_
      obtain ⟨M2, eM2, hf⟩ := gz_lte hf
      refine gp12_28 X wf_RX12_232 eM2 dX12_doAct_108 ?_
      refine gr_sub (lv' := [(0, .ref (gx_ad x 0)), (1, .int x1)]) [0, 1] rfl ?_
      exact b12_doAct_111 X hc hE _ _ hf
    · rw [if_neg h1] at hf
      refine gr_aload_n X dX12_doAct_81 0 rfl rfl ?_
      refine gf12_27 X wf_RX12_58 dX12_doAct_82 ?_
      refine gr_iload_n X dX12_doAct_85 2 rfl rfl ?_
      refine gr_iconst 1 X dX12_doAct_86 (by decide) ?_
      refine gr_isub X dX12_doAct_87 ?_
      refine gr_aload_n X dX12_doAct_88 0 rfl rfl ?_
      refine gf12_27 X wf_RX12_58 dX12_doAct_89 ?_
      refine gr_iload_n X dX12_doAct_92 2 rfl rfl ?_
      obtain ⟨h3, hf⟩ := gz_cke hf
      refine gr_iaload X gk_R16 (gz_inp h3) dX12_doAct_93 ?_
      obtain ⟨h4, hf⟩ := gz_cke hf
      obtain ⟨M5, eM5, hf⟩ := gz_lte hf
      refine gr_iastore X gk_R16 (gz_inp h4) eM5 dX12_doAct_94 ?_
      obtain ⟨v6, ev6, hf⟩ := gz_lte hf
      refine gr_iinc 1 [(2, .int v6), (0, .ref (gx_ad x 0)), (1, .int x1)] X dX12_doAct_95 2 rfl (by decide) ev6 (by decide) rfl ?_
      refine gr_goto 76 X dX12_doAct_98 (by decide) ?_
      refine gr_sub (lv' := [(0, .ref (gx_ad x 0)), (1, .int x1), (2, .int v6)]) [1, 2, 0] rfl ?_
      exact ih _ _ _ hf

def f12_doAct_55 (x1 : Int32) (M0 : gz_M) : Option (gz_M) := gz_ck (gz_inb x1 8) <| if (M0.1 7 x1.toNatClampNeg) = 2 then (if (M0.1 0 28) = 5 then (f12_doAct_76 gz_FU x1 1 M0) else (f12_doAct_111 x1 M0)) else (some M0)
theorem b12_doAct_55 {x : gz_X} {pf : Nat → Bool} {l : Launch} {M' : gz_M} (X : gz_Ok x cX12_doAct RX12 3 1 gz_cfR pf l) (hc : gx_cells x ≤ (gx_R x).cells ∧ gx_slots x ≤ (gx_R x).slots) (hE : gz_EV x cX12_doAct M') : ∀ (x1 : Int32) (M0 : gz_M), f12_doAct_55 x1 M0 = some M' → gz_At x 55 [(0, .ref (gx_ad x 0)), (1, .int x1)] [] M0 := by
  intro x1 M0  hf
  rw [f12_doAct_55] at hf
  refine gr_aload_n X dX12_doAct_55 0 rfl rfl ?_
  refine gf12_13 X wf_RX12_30 dX12_doAct_56 ?_
  refine gr_iload_n X dX12_doAct_59 1 rfl rfl ?_
  obtain ⟨h1, hf⟩ := gz_cke hf
  refine gr_iaload X gk_R7 (gz_inp h1) dX12_doAct_60 ?_
  refine gr_iconst 2 X dX12_doAct_61 (by decide) ?_
  refine gr_icmp_eq 66 X dX12_doAct_62 (by decide) (fun h2 => ?_) (fun h2 => ?_)
  · rw [if_pos h2] at hf
    refine gr_aload_n X dX12_doAct_66 0 rfl rfl ?_
    refine gf12_28 X wf_RX12_232 dX12_doAct_67 ?_
    refine gr_iconst 5 X dX12_doAct_70 (by decide) ?_
    refine gr_icmp_ne 111 X dX12_doAct_71 (by decide) (fun h3 => ?_) (fun h3 => ?_)
    · rw [if_pos h3] at hf
      refine gr_iconst 1 X dX12_doAct_74 (by decide) ?_
      refine gr_istore_n [(2, .int 1), (0, .ref (gx_ad x 0)), (1, .int x1)] X dX12_doAct_75 rfl rfl (by decide) rfl ?_
      refine gr_sub (lv' := [(0, .ref (gx_ad x 0)), (1, .int x1), (2, .int 1)]) [1, 2, 0] rfl ?_
      exact b12_doAct_76 X hc hE _ _ _ _ hf
    · rw [if_neg h3] at hf
      exact b12_doAct_111 X hc hE _ _ hf
  · rw [if_neg h2] at hf
    exact gz_EVu hE hf dX12_doAct_65

def f12_doAct_28 (x1 : Int32) (M0 : gz_M) : Option (gz_M) := gz_ck (gz_inb x1 8) <| if (M0.1 7 x1.toNatClampNeg) = 3 then (gz_ck (gz_inb x1 8) <| gz_ck (gz_inb ((M0.1 0 28) - 1) 5) <| gz_lt (gz_w M0 16 ((M0.1 0 28) - 1).toNatClampNeg (M0.1 8 x1.toNatClampNeg)) fun M5 => f12_doAct_55 x1 M5) else (f12_doAct_55 x1 M0)
theorem b12_doAct_28 {x : gz_X} {pf : Nat → Bool} {l : Launch} {M' : gz_M} (X : gz_Ok x cX12_doAct RX12 3 1 gz_cfR pf l) (hc : gx_cells x ≤ (gx_R x).cells ∧ gx_slots x ≤ (gx_R x).slots) (hE : gz_EV x cX12_doAct M') : ∀ (x1 : Int32) (M0 : gz_M), f12_doAct_28 x1 M0 = some M' → gz_At x 28 [(0, .ref (gx_ad x 0)), (1, .int x1)] [] M0 := by
  intro x1 M0  hf
  rw [f12_doAct_28] at hf
  refine gr_aload_n X dX12_doAct_28 0 rfl rfl ?_
  refine gf12_13 X wf_RX12_30 dX12_doAct_29 ?_
  refine gr_iload_n X dX12_doAct_32 1 rfl rfl ?_
  obtain ⟨h1, hf⟩ := gz_cke hf
  refine gr_iaload X gk_R7 (gz_inp h1) dX12_doAct_33 ?_
  refine gr_iconst 3 X dX12_doAct_34 (by decide) ?_
  refine gr_icmp_ne 55 X dX12_doAct_35 (by decide) (fun h2 => ?_) (fun h2 => ?_)
  · rw [if_pos h2] at hf
    refine gr_aload_n X dX12_doAct_38 0 rfl rfl ?_
    refine gf12_27 X wf_RX12_58 dX12_doAct_39 ?_
    refine gr_aload_n X dX12_doAct_42 0 rfl rfl ?_
    refine gf12_28 X wf_RX12_232 dX12_doAct_43 ?_
    refine gr_iconst 1 X dX12_doAct_46 (by decide) ?_
    refine gr_isub X dX12_doAct_47 ?_
    refine gr_aload_n X dX12_doAct_48 0 rfl rfl ?_
    refine gf12_14 X wf_RX12_33 dX12_doAct_49 ?_
    refine gr_iload_n X dX12_doAct_52 1 rfl rfl ?_
    obtain ⟨h3, hf⟩ := gz_cke hf
    refine gr_iaload X gk_R8 (gz_inp h3) dX12_doAct_53 ?_
    obtain ⟨h4, hf⟩ := gz_cke hf
    obtain ⟨M5, eM5, hf⟩ := gz_lte hf
    refine gr_iastore X gk_R16 (gz_inp h4) eM5 dX12_doAct_54 ?_
    exact b12_doAct_55 X hc hE _ _ hf
  · rw [if_neg h2] at hf
    exact b12_doAct_55 X hc hE _ _ hf

def f12_doAct (a0 : Int32) (M0 : gz_M) : Option (gz_M) := gz_ck (gz_inb a0 8) <| if (M0.1 7 a0.toNatClampNeg) = 1 then (if (M0.1 0 28) ≤ 1 then (f12_doAct_28 a0 M0) else (gz_lt (gz_w M0 0 28 ((M0.1 0 28) - 1)) fun M4 => f12_doAct_28 a0 M4)) else (f12_doAct_28 a0 M0)
set_option maxRecDepth 100000 in
theorem c12_doAct {pf : Nat → Bool} {l : Launch} {M0 M' : gz_M} {a0 : Int32} (hf : f12_doAct a0 M0 = some M') : gz_CV l gz_cfR yX12_doAct cX12_doAct 3 1 (fun ad => [.ref (ad 0), .int a0]) pf M0 M' := by
  refine gz_ofV (by decide +kernel) (fun _ => Nat.le_of_ble_eq_true rfl) (fun x X hc hE => ?_)
  show gz_At x 0 [(0, .ref (gx_ad x 0)), (1, .int a0)] [] M0
  unfold f12_doAct at hf
  refine gr_aload_n X dX12_doAct_0 0 rfl rfl ?_
  refine gf12_13 X wf_RX12_30 dX12_doAct_1 ?_
  refine gr_iload_n X dX12_doAct_4 1 rfl rfl ?_
  obtain ⟨h1, hf⟩ := gz_cke hf
  refine gr_iaload X gk_R7 (gz_inp h1) dX12_doAct_5 ?_
  refine gr_iconst 1 X dX12_doAct_6 (by decide) ?_
  refine gr_icmp_ne 28 X dX12_doAct_7 (by decide) (fun h2 => ?_) (fun h2 => ?_)
  · rw [if_pos h2] at hf
    refine gr_aload_n X dX12_doAct_10 0 rfl rfl ?_
    refine gf12_28 X wf_RX12_232 dX12_doAct_11 ?_
    refine gr_iconst 1 X dX12_doAct_14 (by decide) ?_
    refine gr_icmp_le 28 X dX12_doAct_15 (by decide) (fun h3 => ?_) (fun h3 => ?_)
    · rw [if_pos h3] at hf
      exact b12_doAct_28 X hc hE _ _ hf
    · rw [if_neg h3] at hf
      refine gr_aload_n X dX12_doAct_18 0 rfl rfl ?_
      refine gr_dup X dX12_doAct_19 rfl ?_
      refine gf12_28 X wf_RX12_232 dX12_doAct_20 ?_
      refine gr_iconst 1 X dX12_doAct_23 (by decide) ?_
      refine gr_isub X dX12_doAct_24 ?_
      obtain ⟨M4, eM4, hf⟩ := gz_lte hf
      refine gp12_28 X wf_RX12_232 eM4 dX12_doAct_25 ?_
      exact b12_doAct_28 X hc hE _ _ hf
  · rw [if_neg h2] at hf
    exact b12_doAct_28 X hc hE _ _ hf

def f12_cutOne_404 : Nat → Int32 → Int32 → gz_M → Option (gz_M)
  | 0, _, _, _ => none
  | n + 1, x9, x10, M0 => if 5 ≤ x10 then (gz_lt (gz_w M0 0 31 ((M0.1 0 31) + 1)) fun M2 => some M2) else (if (M0.1 0 28) ≤ x10 then (gz_ck (gz_inb ((x9 + 7) + x10) 300) <| gz_lt (gz_w M0 17 ((x9 + 7) + x10).toNatClampNeg (-1)) fun M5 => gz_lt (x10 + 1) fun v6 => f12_cutOne_404 n x9 v6 M5) else (gz_ck (gz_inb x10 5) <| gz_ck (gz_inb ((x9 + 7) + x10) 300) <| gz_lt (gz_w M0 17 ((x9 + 7) + x10).toNatClampNeg (M0.1 16 x10.toNatClampNeg)) fun M9 => gz_lt (x10 + 1) fun v10 => f12_cutOne_404 n x9 v10 M9))
theorem b12_cutOne_404 {x : gz_X} {pf : Nat → Bool} {l : Launch} {M' : gz_M} (X : gz_Ok x cX12_cutOne RX12 11 2 gz_cfR pf l) (hc : gx_cells x ≤ (gx_R x).cells ∧ gx_slots x ≤ (gx_R x).slots) (hE : gz_EV x cX12_cutOne M') : ∀ (n : Nat) (x9 : Int32) (x10 : Int32) (M0 : gz_M), f12_cutOne_404 n x9 x10 M0 = some M' → gz_At x 404 [(0, .ref (gx_ad x 0)), (9, .int x9), (10, .int x10)] [] M0 := by
  intro n
  induction n with
  | zero =>
    intro x9 x10 M0  hf
    rw [f12_cutOne_404] at hf
    cases hf
  | succ n ih =>
    intro x9 x10 M0  hf
    rw [f12_cutOne_404] at hf
    refine gr_iload X dX12_cutOne_404 2 rfl ?_
    refine gr_iconst 5 X dX12_cutOne_406 (by decide) ?_
    refine gr_icmp_ge 449 X dX12_cutOne_407 (by decide) (fun h1 => ?_) (fun h1 => ?_)
    · rw [if_pos h1] at hf
      refine gr_aload_n X dX12_cutOne_449 0 rfl rfl ?_
      refine gr_dup X dX12_cutOne_450 rfl ?_
      refine gf12_31 X wf_RX12_238 dX12_cutOne_451 ?_
      refine gr_iconst 1 X dX12_cutOne_454 (by decide) ?_
      refine gr_iadd X dX12_cutOne_455 ?_
      obtain ⟨M2, eM2, hf⟩ := gz_lte hf
      refine gp12_31 X wf_RX12_238 eM2 dX12_cutOne_456 ?_
      exact gz_EVu hE hf dX12_cutOne_459
    · rw [if_neg h1] at hf
      refine gr_aload_n X dX12_cutOne_410 0 rfl rfl ?_
      refine gf12_30 X wf_RX12_61 dX12_cutOne_411 ?_
      refine gr_iload X dX12_cutOne_414 1 rfl ?_
      refine gr_bipush 7 X dX12_cutOne_416 (by decide) ?_
      refine gr_iadd X dX12_cutOne_418 ?_
      refine gr_iload X dX12_cutOne_419 2 rfl ?_
      refine gr_iadd X dX12_cutOne_421 ?_
      refine gr_iload X dX12_cutOne_422 2 rfl ?_
      refine gr_aload_n X dX12_cutOne_424 0 rfl rfl ?_
      refine gf12_28 X wf_RX12_232 dX12_cutOne_425 ?_
      refine gr_icmp_ge 441 X dX12_cutOne_428 (by decide) (fun h3 => ?_) (fun h3 => ?_)
      · rw [if_pos h3] at hf
        refine gr_iconst (-1) X dX12_cutOne_441 (by decide) ?_
        obtain ⟨h4, hf⟩ := gz_cke hf
        obtain ⟨M5, eM5, hf⟩ := gz_lte hf
        refine gr_iastore X gk_R17 (gz_inp h4) eM5 dX12_cutOne_442 ?_
        obtain ⟨v6, ev6, hf⟩ := gz_lte hf
        refine gr_iinc 1 [(10, .int v6), (0, .ref (gx_ad x 0)), (9, .int x9)] X dX12_cutOne_443 2 rfl (by decide) ev6 (by decide) rfl ?_
        refine gr_goto 404 X dX12_cutOne_446 (by decide) ?_
        refine gr_sub (lv' := [(0, .ref (gx_ad x 0)), (9, .int x9), (10, .int v6)]) [1, 2, 0] rfl ?_
        exact ih _ _ _ hf
      · rw [if_neg h3] at hf
        refine gr_aload_n X dX12_cutOne_431 0 rfl rfl ?_
        refine gf12_27 X wf_RX12_58 dX12_cutOne_432 ?_
        refine gr_iload X dX12_cutOne_435 2 rfl ?_
        obtain ⟨h7, hf⟩ := gz_cke hf
        refine gr_iaload X gk_R16 (gz_inp h7) dX12_cutOne_437 ?_
        refine gr_goto 442 X dX12_cutOne_438 (by decide) ?_
        obtain ⟨h8, hf⟩ := gz_cke hf
        obtain ⟨M9, eM9, hf⟩ := gz_lte hf
        refine gr_iastore X gk_R17 (gz_inp h8) eM9 dX12_cutOne_442 ?_
        obtain ⟨v10, ev10, hf⟩ := gz_lte hf
        refine gr_iinc 1 [(10, .int v10), (0, .ref (gx_ad x 0)), (9, .int x9)] X dX12_cutOne_443 2 rfl (by decide) ev10 (by decide) rfl ?_
        refine gr_goto 404 X dX12_cutOne_446 (by decide) ?_
        refine gr_sub (lv' := [(0, .ref (gx_ad x 0)), (9, .int x9), (10, .int v10)]) [1, 2, 0] rfl ?_
        exact ih _ _ _ hf

def f12_cutOne_388 (x9 : Int32) (M0 : gz_M) : Option (gz_M) := gz_ck (gz_inb (x9 + 5) 300) <| gz_lt (gz_w M0 17 (x9 + 5).toNatClampNeg (M0.1 0 28)) fun M2 => f12_cutOne_404 gz_FU x9 0 M2
theorem b12_cutOne_388 {x : gz_X} {pf : Nat → Bool} {l : Launch} {M' : gz_M} (X : gz_Ok x cX12_cutOne RX12 11 2 gz_cfR pf l) (hc : gx_cells x ≤ (gx_R x).cells ∧ gx_slots x ≤ (gx_R x).slots) (hE : gz_EV x cX12_cutOne M') : ∀ (x9 : Int32) (M0 : gz_M), f12_cutOne_388 x9 M0 = some M' → gz_At x 388 [(0, .ref (gx_ad x 0)), (9, .int x9)] [] M0 := by
  intro x9 M0  hf
  rw [f12_cutOne_388] at hf
  refine gr_aload_n X dX12_cutOne_388 0 rfl rfl ?_
  refine gf12_30 X wf_RX12_61 dX12_cutOne_389 ?_
  refine gr_iload X dX12_cutOne_392 1 rfl ?_
  refine gr_iconst 5 X dX12_cutOne_394 (by decide) ?_
  refine gr_iadd X dX12_cutOne_395 ?_
  refine gr_aload_n X dX12_cutOne_396 0 rfl rfl ?_
  refine gf12_28 X wf_RX12_232 dX12_cutOne_397 ?_
  obtain ⟨h1, hf⟩ := gz_cke hf
  obtain ⟨M2, eM2, hf⟩ := gz_lte hf
  refine gr_iastore X gk_R17 (gz_inp h1) eM2 dX12_cutOne_400 ?_
  refine gr_iconst 0 X dX12_cutOne_401 (by decide) ?_
  refine gr_istore [(10, .int 0), (0, .ref (gx_ad x 0)), (9, .int x9)] X dX12_cutOne_402 rfl (by decide) rfl ?_
  refine gr_sub (lv' := [(0, .ref (gx_ad x 0)), (9, .int x9), (10, .int 0)]) [1, 2, 0] rfl ?_
  exact b12_cutOne_404 X hc hE _ _ _ _ hf

def f12_cutOne_362 (x5 : Int32) (x9 : Int32) (s0 : Int32) (s1 : Int32) (M0 : gz_M) : Option (gz_M) := gz_ck (gz_inb s1 300) <| gz_lt (gz_w M0 17 s1.toNatClampNeg s0) fun M2 => gz_ck (gz_inb (x9 + 2) 300) <| gz_lt (gz_w M2 0 26 (M2.1 17 (x9 + 2).toNatClampNeg)) fun M4 => if x5 = (-1) then (f12_cutOne_388 x9 M4) else (gz_bd (f12_doAct x5 M4) fun M6 => f12_cutOne_388 x9 M6)
theorem b12_cutOne_362 {x : gz_X} {pf : Nat → Bool} {l : Launch} {M' : gz_M} (X : gz_Ok x cX12_cutOne RX12 11 2 gz_cfR pf l) (hc : gx_cells x ≤ (gx_R x).cells ∧ gx_slots x ≤ (gx_R x).slots) (hE : gz_EV x cX12_cutOne M') : ∀ (x5 : Int32) (x9 : Int32) (s0 : Int32) (s1 : Int32) (M0 : gz_M), f12_cutOne_362 x5 x9 s0 s1 M0 = some M' → gz_At x 362 [(0, .ref (gx_ad x 0)), (5, .int x5), (9, .int x9)] [.int s0, .int s1, .ref (gx_ad x 17)] M0 := by
  intro x5 x9 s0 s1 M0  hf
  rw [f12_cutOne_362] at hf
  obtain ⟨h1, hf⟩ := gz_cke hf
  obtain ⟨M2, eM2, hf⟩ := gz_lte hf
  refine gr_iastore X gk_R17 (gz_inp h1) eM2 dX12_cutOne_362 ?_
  refine gr_aload_n X dX12_cutOne_363 0 rfl rfl ?_
  refine gr_aload_n X dX12_cutOne_364 0 rfl rfl ?_
  refine gf12_30 X wf_RX12_61 dX12_cutOne_365 ?_
  refine gr_iload X dX12_cutOne_368 2 rfl ?_
  refine gr_iconst 2 X dX12_cutOne_370 (by decide) ?_
  refine gr_iadd X dX12_cutOne_371 ?_
  obtain ⟨h3, hf⟩ := gz_cke hf
  refine gr_iaload X gk_R17 (gz_inp h3) dX12_cutOne_372 ?_
  obtain ⟨M4, eM4, hf⟩ := gz_lte hf
  refine gp12_26 X wf_RX12_229 eM4 dX12_cutOne_373 ?_
  refine gr_iload X dX12_cutOne_376 1 rfl ?_
  refine gr_iconst (-1) X dX12_cutOne_378 (by decide) ?_
  refine gr_icmp_eq 388 X dX12_cutOne_379 (by decide) (fun h5 => ?_) (fun h5 => ?_)
  · rw [if_pos h5] at hf
    refine gr_sub (lv' := [(0, .ref (gx_ad x 0)), (9, .int x9)]) [0, 2] rfl ?_
    exact b12_cutOne_388 X hc hE _ _ hf
  · rw [if_neg h5] at hf
    refine gr_aload_n X dX12_cutOne_382 0 rfl rfl ?_
    refine gr_iload X dX12_cutOne_383 1 rfl ?_
    obtain ⟨M6, q7, hf⟩ := gz_bde hf
    refine gr_callV (asF := fun ad => [.ref (ad 0), .int x5]) [.int x5] X (c12_doAct q7) rfl wm_RX12_261 rfl (X.kd gk_R0).1 ((X.kd gk_R0).2 _ _ _ _) rfl (by decide) (by decide) rfl (Nat.le_of_ble_eq_true rfl) hc dX12_cutOne_385 ?_
    refine gr_sub (lv' := [(0, .ref (gx_ad x 0)), (9, .int x9)]) [0, 2] rfl ?_
    exact b12_cutOne_388 X hc hE _ _ hf

def f12_cutOne_330 (x2 : Int32) (x3 : Int32) (x5 : Int32) (x6 : Int32) (x9 : Int32) (s0 : Int32) (s1 : Int32) (M0 : gz_M) : Option (gz_M) := gz_ck (gz_inb s1 300) <| gz_lt (gz_w M0 17 s1.toNatClampNeg s0) fun M2 => gz_ck (gz_inb (x9 + 4) 300) <| gz_lt (gz_w M2 17 (x9 + 4).toNatClampNeg x2) fun M4 => if x3 = 0 then (f12_cutOne_362 x5 x9 (x6 - 1) (x9 + 6) M4) else (f12_cutOne_362 x5 x9 (-1) (x9 + 6) M4)
theorem b12_cutOne_330 {x : gz_X} {pf : Nat → Bool} {l : Launch} {M' : gz_M} (X : gz_Ok x cX12_cutOne RX12 11 2 gz_cfR pf l) (hc : gx_cells x ≤ (gx_R x).cells ∧ gx_slots x ≤ (gx_R x).slots) (hE : gz_EV x cX12_cutOne M') : ∀ (x2 : Int32) (x3 : Int32) (x5 : Int32) (x6 : Int32) (x9 : Int32) (s0 : Int32) (s1 : Int32) (M0 : gz_M), f12_cutOne_330 x2 x3 x5 x6 x9 s0 s1 M0 = some M' → gz_At x 330 [(0, .ref (gx_ad x 0)), (2, .int x2), (3, .int x3), (5, .int x5), (6, .int x6), (9, .int x9)] [.int s0, .int s1, .ref (gx_ad x 17)] M0 := by
  intro x2 x3 x5 x6 x9 s0 s1 M0  hf
  rw [f12_cutOne_330] at hf
  obtain ⟨h1, hf⟩ := gz_cke hf
  obtain ⟨M2, eM2, hf⟩ := gz_lte hf
  refine gr_iastore X gk_R17 (gz_inp h1) eM2 dX12_cutOne_330 ?_
  refine gr_aload_n X dX12_cutOne_331 0 rfl rfl ?_
  refine gf12_30 X wf_RX12_61 dX12_cutOne_332 ?_
  refine gr_iload X dX12_cutOne_335 5 rfl ?_
  refine gr_iconst 4 X dX12_cutOne_337 (by decide) ?_
  refine gr_iadd X dX12_cutOne_338 ?_
  refine gr_iload_n X dX12_cutOne_339 1 rfl rfl ?_
  obtain ⟨h3, hf⟩ := gz_cke hf
  obtain ⟨M4, eM4, hf⟩ := gz_lte hf
  refine gr_iastore X gk_R17 (gz_inp h3) eM4 dX12_cutOne_340 ?_
  refine gr_aload_n X dX12_cutOne_341 0 rfl rfl ?_
  refine gf12_30 X wf_RX12_61 dX12_cutOne_342 ?_
  refine gr_iload X dX12_cutOne_345 5 rfl ?_
  refine gr_bipush 6 X dX12_cutOne_347 (by decide) ?_
  refine gr_iadd X dX12_cutOne_349 ?_
  refine gr_iload_n X dX12_cutOne_350 2 rfl rfl ?_
  refine gr_if_ne 361 X dX12_cutOne_351 (by decide) (fun h5 => ?_) (fun h5 => ?_)
  · rw [if_pos h5] at hf
    refine gr_iload X dX12_cutOne_354 4 rfl ?_
    refine gr_iconst 1 X dX12_cutOne_356 (by decide) ?_
    refine gr_isub X dX12_cutOne_357 ?_
    refine gr_goto 362 X dX12_cutOne_358 (by decide) ?_
    refine gr_sub (lv' := [(0, .ref (gx_ad x 0)), (5, .int x5), (9, .int x9)]) [0, 3, 5] rfl ?_
    exact b12_cutOne_362 X hc hE _ _ _ _ _ hf
  · rw [if_neg h5] at hf
    refine gr_iconst (-1) X dX12_cutOne_361 (by decide) ?_
    refine gr_sub (lv' := [(0, .ref (gx_ad x 0)), (5, .int x5), (9, .int x9)]) [0, 3, 5] rfl ?_
    exact b12_cutOne_362 X hc hE _ _ _ _ _ hf

def f12_cutOne_308 (x2 : Int32) (x3 : Int32) (x5 : Int32) (x6 : Int32) (x9 : Int32) (s0 : Int32) (s1 : Int32) (M0 : gz_M) : Option (gz_M) := gz_ck (gz_inb s1 300) <| gz_lt (gz_w M0 17 s1.toNatClampNeg s0) fun M2 => if x3 = 0 then (f12_cutOne_330 x2 x3 x5 x6 x9 x6 (x9 + 3) M2) else (f12_cutOne_330 x2 x3 x5 x6 x9 (x6 + 1) (x9 + 3) M2)
theorem b12_cutOne_308 {x : gz_X} {pf : Nat → Bool} {l : Launch} {M' : gz_M} (X : gz_Ok x cX12_cutOne RX12 11 2 gz_cfR pf l) (hc : gx_cells x ≤ (gx_R x).cells ∧ gx_slots x ≤ (gx_R x).slots) (hE : gz_EV x cX12_cutOne M') : ∀ (x2 : Int32) (x3 : Int32) (x5 : Int32) (x6 : Int32) (x9 : Int32) (s0 : Int32) (s1 : Int32) (M0 : gz_M), f12_cutOne_308 x2 x3 x5 x6 x9 s0 s1 M0 = some M' → gz_At x 308 [(0, .ref (gx_ad x 0)), (2, .int x2), (3, .int x3), (5, .int x5), (6, .int x6), (9, .int x9)] [.int s0, .int s1, .ref (gx_ad x 17)] M0 := by
  intro x2 x3 x5 x6 x9 s0 s1 M0  hf
  rw [f12_cutOne_308] at hf
  obtain ⟨h1, hf⟩ := gz_cke hf
  obtain ⟨M2, eM2, hf⟩ := gz_lte hf
  refine gr_iastore X gk_R17 (gz_inp h1) eM2 dX12_cutOne_308 ?_
  refine gr_aload_n X dX12_cutOne_309 0 rfl rfl ?_
  refine gf12_30 X wf_RX12_61 dX12_cutOne_310 ?_
  refine gr_iload X dX12_cutOne_313 5 rfl ?_
  refine gr_iconst 3 X dX12_cutOne_315 (by decide) ?_
  refine gr_iadd X dX12_cutOne_316 ?_
  refine gr_iload_n X dX12_cutOne_317 2 rfl rfl ?_
  refine gr_if_eq 328 X dX12_cutOne_318 (by decide) (fun h3 => ?_) (fun h3 => ?_)
  · rw [if_pos h3] at hf
    refine gr_iload X dX12_cutOne_328 4 rfl ?_
    exact b12_cutOne_330 X hc hE _ _ _ _ _ _ _ _ hf
  · rw [if_neg h3] at hf
    refine gr_iload X dX12_cutOne_321 4 rfl ?_
    refine gr_iconst 1 X dX12_cutOne_323 (by decide) ?_
    refine gr_iadd X dX12_cutOne_324 ?_
    refine gr_goto 330 X dX12_cutOne_325 (by decide) ?_
    exact b12_cutOne_330 X hc hE _ _ _ _ _ _ _ _ hf

def f12_cutOne_250 (x2 : Int32) (x3 : Int32) (x4 : Int32) (x5 : Int32) (x6 : Int32) (M0 : gz_M) : Option (gz_M) := gz_lt (12 * (M0.1 0 31)) fun v1 => gz_ck (gz_inb (v1 + 0) 300) <| gz_lt (gz_w M0 17 (v1 + 0).toNatClampNeg x5) fun M3 => gz_ck (gz_inb (v1 + 1) 300) <| gz_lt (gz_w M3 17 (v1 + 1).toNatClampNeg (M3.1 0 26)) fun M5 => if x4 = (-1) then (f12_cutOne_308 x2 x3 x5 x6 v1 ((M5.1 0 26) + 1) (v1 + 2) M5) else (f12_cutOne_308 x2 x3 x5 x6 v1 x4 (v1 + 2) M5)
theorem b12_cutOne_250 {x : gz_X} {pf : Nat → Bool} {l : Launch} {M' : gz_M} (X : gz_Ok x cX12_cutOne RX12 11 2 gz_cfR pf l) (hc : gx_cells x ≤ (gx_R x).cells ∧ gx_slots x ≤ (gx_R x).slots) (hE : gz_EV x cX12_cutOne M') : ∀ (x2 : Int32) (x3 : Int32) (x4 : Int32) (x5 : Int32) (x6 : Int32) (M0 : gz_M), f12_cutOne_250 x2 x3 x4 x5 x6 M0 = some M' → gz_At x 250 [(0, .ref (gx_ad x 0)), (2, .int x2), (3, .int x3), (4, .int x4), (5, .int x5), (6, .int x6)] [] M0 := by
  intro x2 x3 x4 x5 x6 M0  hf
  rw [f12_cutOne_250] at hf
  refine gr_bipush 12 X dX12_cutOne_250 (by decide) ?_
  refine gr_aload_n X dX12_cutOne_252 0 rfl rfl ?_
  refine gf12_31 X wf_RX12_238 dX12_cutOne_253 ?_
  refine gr_imul X dX12_cutOne_256 ?_
  obtain ⟨v1, ev1, hf⟩ := gz_lte hf
  refine gr_istore [(9, .int v1), (0, .ref (gx_ad x 0)), (2, .int x2), (3, .int x3), (4, .int x4), (5, .int x5), (6, .int x6)] X dX12_cutOne_257 ev1 (by decide) rfl ?_
  refine gr_aload_n X dX12_cutOne_259 1 rfl rfl ?_
  refine gf12_30 X wf_RX12_61 dX12_cutOne_260 ?_
  refine gr_iload X dX12_cutOne_263 0 rfl ?_
  refine gr_iconst 0 X dX12_cutOne_265 (by decide) ?_
  refine gr_iadd X dX12_cutOne_266 ?_
  refine gr_iload X dX12_cutOne_267 5 rfl ?_
  obtain ⟨h2, hf⟩ := gz_cke hf
  obtain ⟨M3, eM3, hf⟩ := gz_lte hf
  refine gr_iastore X gk_R17 (gz_inp h2) eM3 dX12_cutOne_269 ?_
  refine gr_aload_n X dX12_cutOne_270 1 rfl rfl ?_
  refine gf12_30 X wf_RX12_61 dX12_cutOne_271 ?_
  refine gr_iload X dX12_cutOne_274 0 rfl ?_
  refine gr_iconst 1 X dX12_cutOne_276 (by decide) ?_
  refine gr_iadd X dX12_cutOne_277 ?_
  refine gr_aload_n X dX12_cutOne_278 1 rfl rfl ?_
  refine gf12_26 X wf_RX12_229 dX12_cutOne_279 ?_
  obtain ⟨h4, hf⟩ := gz_cke hf
  obtain ⟨M5, eM5, hf⟩ := gz_lte hf
  refine gr_iastore X gk_R17 (gz_inp h4) eM5 dX12_cutOne_282 ?_
  refine gr_aload_n X dX12_cutOne_283 1 rfl rfl ?_
  refine gf12_30 X wf_RX12_61 dX12_cutOne_284 ?_
  refine gr_iload X dX12_cutOne_287 0 rfl ?_
  refine gr_iconst 2 X dX12_cutOne_289 (by decide) ?_
  refine gr_iadd X dX12_cutOne_290 ?_
  refine gr_iload X dX12_cutOne_291 4 rfl ?_
  refine gr_iconst (-1) X dX12_cutOne_293 (by decide) ?_
  refine gr_icmp_ne 306 X dX12_cutOne_294 (by decide) (fun h6 => ?_) (fun h6 => ?_)
  · rw [if_pos h6] at hf
    refine gr_aload_n X dX12_cutOne_297 1 rfl rfl ?_
    refine gf12_26 X wf_RX12_229 dX12_cutOne_298 ?_
    refine gr_iconst 1 X dX12_cutOne_301 (by decide) ?_
    refine gr_iadd X dX12_cutOne_302 ?_
    refine gr_goto 308 X dX12_cutOne_303 (by decide) ?_
    refine gr_sub (lv' := [(0, .ref (gx_ad x 0)), (2, .int x2), (3, .int x3), (5, .int x5), (6, .int x6), (9, .int v1)]) [1, 2, 3, 5, 6, 0] rfl ?_
    exact b12_cutOne_308 X hc hE _ _ _ _ _ _ _ _ hf
  · rw [if_neg h6] at hf
    refine gr_iload X dX12_cutOne_306 4 rfl ?_
    refine gr_sub (lv' := [(0, .ref (gx_ad x 0)), (2, .int x2), (3, .int x3), (5, .int x5), (6, .int x6), (9, .int v1)]) [1, 2, 3, 5, 6, 0] rfl ?_
    exact b12_cutOne_308 X hc hE _ _ _ _ _ _ _ _ hf

def f12_cutOne_228 (c197 : Int32 → Int32 → Int32 → Int32 → Int32 → Int32 → Int32 → gz_M → Option (gz_M)) (x2 : Int32) (x3 : Int32) (x4 : Int32) (x5 : Int32) (x6 : Int32) (x7 : Int32) (x9 : Int32) (s0 : Int32) (s1 : Int32) (M0 : gz_M) : Option (gz_M) := if s1 ≤ s0 then (gz_lt (x9 + 1) fun v2 => c197 x2 x3 x4 x5 x6 x7 v2 M0) else (gz_ck (gz_inb x9 24) <| gz_ck (gz_inb (M0.1 20 x9.toNatClampNeg) 102400) <| gz_lt (gz_w M0 19 (M0.1 20 x9.toNatClampNeg).toNatClampNeg (vp_nar .boolean 1)) fun M5 => gz_lt (x9 + 1) fun v6 => c197 x2 x3 x4 x5 x6 x7 v6 M5)
theorem b12_cutOne_228 {x : gz_X} {pf : Nat → Bool} {l : Launch} {M' : gz_M} (X : gz_Ok x cX12_cutOne RX12 11 2 gz_cfR pf l) (hc : gx_cells x ≤ (gx_R x).cells ∧ gx_slots x ≤ (gx_R x).slots) (hE : gz_EV x cX12_cutOne M') {c197 : Int32 → Int32 → Int32 → Int32 → Int32 → Int32 → Int32 → gz_M → Option (gz_M)} (hc197 : ∀ (x2 : Int32) (x3 : Int32) (x4 : Int32) (x5 : Int32) (x6 : Int32) (x7 : Int32) (x9 : Int32) (M0 : gz_M), c197 x2 x3 x4 x5 x6 x7 x9 M0 = some M' → gz_At x 197 [(0, .ref (gx_ad x 0)), (2, .int x2), (3, .int x3), (4, .int x4), (5, .int x5), (6, .int x6), (7, .int x7), (9, .int x9)] [] M0) : ∀ (x2 : Int32) (x3 : Int32) (x4 : Int32) (x5 : Int32) (x6 : Int32) (x7 : Int32) (x9 : Int32) (s0 : Int32) (s1 : Int32) (M0 : gz_M), f12_cutOne_228 c197 x2 x3 x4 x5 x6 x7 x9 s0 s1 M0 = some M' → gz_At x 228 [(0, .ref (gx_ad x 0)), (2, .int x2), (3, .int x3), (4, .int x4), (5, .int x5), (6, .int x6), (7, .int x7), (9, .int x9)] [.int s0, .int s1] M0 := by
  intro x2 x3 x4 x5 x6 x7 x9 s0 s1 M0  hf
  rw [f12_cutOne_228] at hf
  refine gr_icmp_le 244 X dX12_cutOne_228 (by decide) (fun h1 => ?_) (fun h1 => ?_)
  · rw [if_pos h1] at hf
    obtain ⟨v2, ev2, hf⟩ := gz_lte hf
    refine gr_iinc 1 [(9, .int v2), (0, .ref (gx_ad x 0)), (2, .int x2), (3, .int x3), (4, .int x4), (5, .int x5), (6, .int x6), (7, .int x7)] X dX12_cutOne_244 7 rfl (by decide) ev2 (by decide) rfl ?_
    refine gr_goto 197 X dX12_cutOne_247 (by decide) ?_
    refine gr_sub (lv' := [(0, .ref (gx_ad x 0)), (2, .int x2), (3, .int x3), (4, .int x4), (5, .int x5), (6, .int x6), (7, .int x7), (9, .int v2)]) [1, 2, 3, 4, 5, 6, 7, 0] rfl ?_
    exact hc197 _ _ _ _ _ _ _ _ hf
  · rw [if_neg h1] at hf
    refine gr_aload_n X dX12_cutOne_231 0 rfl rfl ?_
    refine gf12_34 X wf_RX12_68 dX12_cutOne_232 ?_
    refine gr_aload_n X dX12_cutOne_235 0 rfl rfl ?_
    refine gf12_35 X wf_RX12_71 dX12_cutOne_236 ?_
    refine gr_iload X dX12_cutOne_239 7 rfl ?_
    obtain ⟨h3, hf⟩ := gz_cke hf
    refine gr_iaload X gk_R20 (gz_inp h3) dX12_cutOne_241 ?_
    refine gr_iconst 1 X dX12_cutOne_242 (by decide) ?_
    obtain ⟨h4, hf⟩ := gz_cke hf
    obtain ⟨M5, eM5, hf⟩ := gz_lte hf
    refine gr_zastore X gk_R19 (gz_inp h4) eM5 dX12_cutOne_243 ?_
    obtain ⟨v6, ev6, hf⟩ := gz_lte hf
    refine gr_iinc 1 [(9, .int v6), (0, .ref (gx_ad x 0)), (2, .int x2), (3, .int x3), (4, .int x4), (5, .int x5), (6, .int x6), (7, .int x7)] X dX12_cutOne_244 7 rfl (by decide) ev6 (by decide) rfl ?_
    refine gr_goto 197 X dX12_cutOne_247 (by decide) ?_
    refine gr_sub (lv' := [(0, .ref (gx_ad x 0)), (2, .int x2), (3, .int x3), (4, .int x4), (5, .int x5), (6, .int x6), (7, .int x7), (9, .int v6)]) [1, 2, 3, 4, 5, 6, 7, 0] rfl ?_
    exact hc197 _ _ _ _ _ _ _ _ hf

def f12_cutOne_197 : Nat → Int32 → Int32 → Int32 → Int32 → Int32 → Int32 → Int32 → gz_M → Option (gz_M)
  | 0, _, _, _, _, _, _, _, _ => none
  | n + 1, x2, x3, x4, x5, x6, x7, x9, M0 => if x7 ≤ x9 then (f12_cutOne_250 x2 x3 x4 x5 x6 M0) else (if x4 = (-1) then (f12_cutOne_228 (f12_cutOne_197 n) x2 x3 x4 x5 x6 x7 x9 (M0.1 0 26) (((M0.1 0 26) + 1) + x9) M0) else (f12_cutOne_228 (f12_cutOne_197 n) x2 x3 x4 x5 x6 x7 x9 x4 (((M0.1 0 26) + 1) + x9) M0))
theorem b12_cutOne_197 {x : gz_X} {pf : Nat → Bool} {l : Launch} {M' : gz_M} (X : gz_Ok x cX12_cutOne RX12 11 2 gz_cfR pf l) (hc : gx_cells x ≤ (gx_R x).cells ∧ gx_slots x ≤ (gx_R x).slots) (hE : gz_EV x cX12_cutOne M') : ∀ (n : Nat) (x2 : Int32) (x3 : Int32) (x4 : Int32) (x5 : Int32) (x6 : Int32) (x7 : Int32) (x9 : Int32) (M0 : gz_M), f12_cutOne_197 n x2 x3 x4 x5 x6 x7 x9 M0 = some M' → gz_At x 197 [(0, .ref (gx_ad x 0)), (2, .int x2), (3, .int x3), (4, .int x4), (5, .int x5), (6, .int x6), (7, .int x7), (9, .int x9)] [] M0 := by
  intro n
  induction n with
  | zero =>
    intro x2 x3 x4 x5 x6 x7 x9 M0  hf
    rw [f12_cutOne_197] at hf
    cases hf
  | succ n ih =>
    intro x2 x3 x4 x5 x6 x7 x9 M0  hf
    rw [f12_cutOne_197] at hf
    refine gr_iload X dX12_cutOne_197 7 rfl ?_
    refine gr_iload X dX12_cutOne_199 6 rfl ?_
    refine gr_icmp_ge 250 X dX12_cutOne_201 (by decide) (fun h1 => ?_) (fun h1 => ?_)
    · rw [if_pos h1] at hf
      refine gr_sub (lv' := [(0, .ref (gx_ad x 0)), (2, .int x2), (3, .int x3), (4, .int x4), (5, .int x5), (6, .int x6)]) [0, 1, 2, 3, 4, 5] rfl ?_
      exact b12_cutOne_250 X hc hE _ _ _ _ _ _ hf
    · rw [if_neg h1] at hf
      refine gr_aload_n X dX12_cutOne_204 0 rfl rfl ?_
      refine gf12_26 X wf_RX12_229 dX12_cutOne_205 ?_
      refine gr_iconst 1 X dX12_cutOne_208 (by decide) ?_
      refine gr_iadd X dX12_cutOne_209 ?_
      refine gr_iload X dX12_cutOne_210 7 rfl ?_
      refine gr_iadd X dX12_cutOne_212 ?_
      refine gr_iload X dX12_cutOne_213 3 rfl ?_
      refine gr_iconst (-1) X dX12_cutOne_215 (by decide) ?_
      refine gr_icmp_ne 226 X dX12_cutOne_216 (by decide) (fun h2 => ?_) (fun h2 => ?_)
      · rw [if_pos h2] at hf
        refine gr_aload_n X dX12_cutOne_219 0 rfl rfl ?_
        refine gf12_26 X wf_RX12_229 dX12_cutOne_220 ?_
        refine gr_goto 228 X dX12_cutOne_223 (by decide) ?_
        exact b12_cutOne_228 X hc hE ih _ _ _ _ _ _ _ _ _ _ hf
      · rw [if_neg h2] at hf
        refine gr_iload X dX12_cutOne_226 3 rfl ?_
        exact b12_cutOne_228 X hc hE ih _ _ _ _ _ _ _ _ _ _ hf

def f12_cutOne_190 (x1 : Int32) (x2 : Int32) (x3 : Int32) (x4 : Int32) (x5 : Int32) (x6 : Int32) (x7 : Int32) (M0 : gz_M) : Option (gz_M) := if x1 = 0 then (f12_cutOne_250 x2 x3 x4 x5 x6 M0) else (f12_cutOne_197 gz_FU x2 x3 x4 x5 x6 x7 0 M0)
theorem b12_cutOne_190 {x : gz_X} {pf : Nat → Bool} {l : Launch} {M' : gz_M} (X : gz_Ok x cX12_cutOne RX12 11 2 gz_cfR pf l) (hc : gx_cells x ≤ (gx_R x).cells ∧ gx_slots x ≤ (gx_R x).slots) (hE : gz_EV x cX12_cutOne M') : ∀ (x1 : Int32) (x2 : Int32) (x3 : Int32) (x4 : Int32) (x5 : Int32) (x6 : Int32) (x7 : Int32) (M0 : gz_M), f12_cutOne_190 x1 x2 x3 x4 x5 x6 x7 M0 = some M' → gz_At x 190 [(0, .ref (gx_ad x 0)), (1, .int x1), (2, .int x2), (3, .int x3), (4, .int x4), (5, .int x5), (6, .int x6), (7, .int x7)] [] M0 := by
  intro x1 x2 x3 x4 x5 x6 x7 M0  hf
  rw [f12_cutOne_190] at hf
  refine gr_iload_n X dX12_cutOne_190 1 rfl rfl ?_
  refine gr_if_eq 250 X dX12_cutOne_191 (by decide) (fun h1 => ?_) (fun h1 => ?_)
  · rw [if_pos h1] at hf
    refine gr_sub (lv' := [(0, .ref (gx_ad x 0)), (2, .int x2), (3, .int x3), (4, .int x4), (5, .int x5), (6, .int x6)]) [0, 2, 3, 4, 5, 6] rfl ?_
    exact b12_cutOne_250 X hc hE _ _ _ _ _ _ hf
  · rw [if_neg h1] at hf
    refine gr_iconst 0 X dX12_cutOne_194 (by decide) ?_
    refine gr_istore [(9, .int 0), (0, .ref (gx_ad x 0)), (1, .int x1), (2, .int x2), (3, .int x3), (4, .int x4), (5, .int x5), (6, .int x6), (7, .int x7)] X dX12_cutOne_195 rfl (by decide) rfl ?_
    refine gr_sub (lv' := [(0, .ref (gx_ad x 0)), (2, .int x2), (3, .int x3), (4, .int x4), (5, .int x5), (6, .int x6), (7, .int x7), (9, .int 0)]) [1, 3, 4, 5, 6, 7, 8, 0] rfl ?_
    exact b12_cutOne_197 X hc hE _ _ _ _ _ _ _ _ _ hf

def f12_cutOne_172 (c32 : Int32 → Int32 → Int32 → Int32 → Int32 → Int32 → Int32 → Int32 → gz_M → Option (gz_M)) (x1 : Int32) (x2 : Int32) (x3 : Int32) (x4 : Int32) (x5 : Int32) (x6 : Int32) (x7 : Int32) (x9 : Int32) (M0 : gz_M) : Option (gz_M) := gz_lt (x7 + 1) fun v1 => gz_ck (gz_inb x7 24) <| gz_lt (gz_w M0 20 x7.toNatClampNeg x9) fun M3 => c32 x1 x2 x3 x4 x5 x6 v1 0 M3
theorem b12_cutOne_172 {x : gz_X} {pf : Nat → Bool} {l : Launch} {M' : gz_M} (X : gz_Ok x cX12_cutOne RX12 11 2 gz_cfR pf l) (hc : gx_cells x ≤ (gx_R x).cells ∧ gx_slots x ≤ (gx_R x).slots) (hE : gz_EV x cX12_cutOne M') {c32 : Int32 → Int32 → Int32 → Int32 → Int32 → Int32 → Int32 → Int32 → gz_M → Option (gz_M)} (hc32 : ∀ (x1 : Int32) (x2 : Int32) (x3 : Int32) (x4 : Int32) (x5 : Int32) (x6 : Int32) (x7 : Int32) (x8 : Int32) (M0 : gz_M), c32 x1 x2 x3 x4 x5 x6 x7 x8 M0 = some M' → gz_At x 32 [(0, .ref (gx_ad x 0)), (1, .int x1), (2, .int x2), (3, .int x3), (4, .int x4), (5, .int x5), (6, .int x6), (7, .int x7), (8, .int x8)] [] M0) : ∀ (x1 : Int32) (x2 : Int32) (x3 : Int32) (x4 : Int32) (x5 : Int32) (x6 : Int32) (x7 : Int32) (x9 : Int32) (M0 : gz_M), f12_cutOne_172 c32 x1 x2 x3 x4 x5 x6 x7 x9 M0 = some M' → gz_At x 172 [(0, .ref (gx_ad x 0)), (1, .int x1), (2, .int x2), (3, .int x3), (4, .int x4), (5, .int x5), (6, .int x6), (7, .int x7), (9, .int x9)] [] M0 := by
  intro x1 x2 x3 x4 x5 x6 x7 x9 M0  hf
  rw [f12_cutOne_172] at hf
  refine gr_iconst 0 X dX12_cutOne_172 (by decide) ?_
  refine gr_istore [(8, .int 0), (0, .ref (gx_ad x 0)), (1, .int x1), (2, .int x2), (3, .int x3), (4, .int x4), (5, .int x5), (6, .int x6), (7, .int x7), (9, .int x9)] X dX12_cutOne_173 rfl (by decide) rfl ?_
  refine gr_aload_n X dX12_cutOne_175 1 rfl rfl ?_
  refine gf12_35 X wf_RX12_71 dX12_cutOne_176 ?_
  refine gr_iload X dX12_cutOne_179 8 rfl ?_
  obtain ⟨v1, ev1, hf⟩ := gz_lte hf
  refine gr_iinc 1 [(7, .int v1), (8, .int 0), (0, .ref (gx_ad x 0)), (1, .int x1), (2, .int x2), (3, .int x3), (4, .int x4), (5, .int x5), (6, .int x6), (9, .int x9)] X dX12_cutOne_181 8 rfl (by decide) ev1 (by decide) rfl ?_
  refine gr_iload X dX12_cutOne_184 9 rfl ?_
  obtain ⟨h2, hf⟩ := gz_cke hf
  obtain ⟨M3, eM3, hf⟩ := gz_lte hf
  refine gr_iastore X gk_R20 (gz_inp h2) eM3 dX12_cutOne_186 ?_
  refine gr_goto 32 X dX12_cutOne_187 (by decide) ?_
  refine gr_sub (lv' := [(0, .ref (gx_ad x 0)), (1, .int x1), (2, .int x2), (3, .int x3), (4, .int x4), (5, .int x5), (6, .int x6), (7, .int v1), (8, .int 0)]) [2, 3, 4, 5, 6, 7, 8, 0, 1] rfl ?_
  exact hc32 _ _ _ _ _ _ _ _ _ hf

def f12_cutOne_154 (c32 : Int32 → Int32 → Int32 → Int32 → Int32 → Int32 → Int32 → Int32 → gz_M → Option (gz_M)) (x1 : Int32) (x2 : Int32) (x3 : Int32) (x4 : Int32) (x5 : Int32) (x6 : Int32) (x7 : Int32) (x9 : Int32) (M0 : gz_M) : Option (gz_M) := if x1 = 0 then (f12_cutOne_172 c32 x1 x2 x3 x4 x5 x6 x7 x9 M0) else (gz_ck (gz_inb x9 102400) <| if (M0.1 19 x9.toNatClampNeg) = 0 then (f12_cutOne_172 c32 x1 x2 x3 x4 x5 x6 x7 x9 M0) else (gz_lt (x7 + 1) fun v4 => gz_ck (gz_inb x7 24) <| gz_lt (gz_w M0 20 x7.toNatClampNeg x9) fun M6 => c32 x1 x2 x3 x4 x5 x6 v4 1 M6))
theorem b12_cutOne_154 {x : gz_X} {pf : Nat → Bool} {l : Launch} {M' : gz_M} (X : gz_Ok x cX12_cutOne RX12 11 2 gz_cfR pf l) (hc : gx_cells x ≤ (gx_R x).cells ∧ gx_slots x ≤ (gx_R x).slots) (hE : gz_EV x cX12_cutOne M') {c32 : Int32 → Int32 → Int32 → Int32 → Int32 → Int32 → Int32 → Int32 → gz_M → Option (gz_M)} (hc32 : ∀ (x1 : Int32) (x2 : Int32) (x3 : Int32) (x4 : Int32) (x5 : Int32) (x6 : Int32) (x7 : Int32) (x8 : Int32) (M0 : gz_M), c32 x1 x2 x3 x4 x5 x6 x7 x8 M0 = some M' → gz_At x 32 [(0, .ref (gx_ad x 0)), (1, .int x1), (2, .int x2), (3, .int x3), (4, .int x4), (5, .int x5), (6, .int x6), (7, .int x7), (8, .int x8)] [] M0) : ∀ (x1 : Int32) (x2 : Int32) (x3 : Int32) (x4 : Int32) (x5 : Int32) (x6 : Int32) (x7 : Int32) (x9 : Int32) (M0 : gz_M), f12_cutOne_154 c32 x1 x2 x3 x4 x5 x6 x7 x9 M0 = some M' → gz_At x 154 [(0, .ref (gx_ad x 0)), (1, .int x1), (2, .int x2), (3, .int x3), (4, .int x4), (5, .int x5), (6, .int x6), (7, .int x7), (9, .int x9)] [] M0 := by
  intro x1 x2 x3 x4 x5 x6 x7 x9 M0  hf
  rw [f12_cutOne_154] at hf
  refine gr_iload_n X dX12_cutOne_154 1 rfl rfl ?_
  refine gr_if_eq 172 X dX12_cutOne_155 (by decide) (fun h1 => ?_) (fun h1 => ?_)
  · rw [if_pos h1] at hf
    exact b12_cutOne_172 X hc hE hc32 _ _ _ _ _ _ _ _ _ hf
  · rw [if_neg h1] at hf
    refine gr_aload_n X dX12_cutOne_158 0 rfl rfl ?_
    refine gf12_34 X wf_RX12_68 dX12_cutOne_159 ?_
    refine gr_iload X dX12_cutOne_162 8 rfl ?_
    obtain ⟨h2, hf⟩ := gz_cke hf
    refine gr_zaload X gk_R19 (gz_inp h2) dX12_cutOne_164 ?_
    refine gr_if_eq 172 X dX12_cutOne_165 (by decide) (fun h3 => ?_) (fun h3 => ?_)
    · rw [if_pos h3] at hf
      exact b12_cutOne_172 X hc hE hc32 _ _ _ _ _ _ _ _ _ hf
    · rw [if_neg h3] at hf
      refine gr_iconst 1 X dX12_cutOne_168 (by decide) ?_
      refine gr_goto 173 X dX12_cutOne_169 (by decide) ?_
      refine gr_istore [(8, .int 1), (0, .ref (gx_ad x 0)), (1, .int x1), (2, .int x2), (3, .int x3), (4, .int x4), (5, .int x5), (6, .int x6), (7, .int x7), (9, .int x9)] X dX12_cutOne_173 rfl (by decide) rfl ?_
      refine gr_aload_n X dX12_cutOne_175 1 rfl rfl ?_
      refine gf12_35 X wf_RX12_71 dX12_cutOne_176 ?_
      refine gr_iload X dX12_cutOne_179 8 rfl ?_
      obtain ⟨v4, ev4, hf⟩ := gz_lte hf
      refine gr_iinc 1 [(7, .int v4), (8, .int 1), (0, .ref (gx_ad x 0)), (1, .int x1), (2, .int x2), (3, .int x3), (4, .int x4), (5, .int x5), (6, .int x6), (9, .int x9)] X dX12_cutOne_181 8 rfl (by decide) ev4 (by decide) rfl ?_
      refine gr_iload X dX12_cutOne_184 9 rfl ?_
      obtain ⟨h5, hf⟩ := gz_cke hf
      obtain ⟨M6, eM6, hf⟩ := gz_lte hf
      refine gr_iastore X gk_R20 (gz_inp h5) eM6 dX12_cutOne_186 ?_
      refine gr_goto 32 X dX12_cutOne_187 (by decide) ?_
      refine gr_sub (lv' := [(0, .ref (gx_ad x 0)), (1, .int x1), (2, .int x2), (3, .int x3), (4, .int x4), (5, .int x5), (6, .int x6), (7, .int v4), (8, .int 1)]) [2, 3, 4, 5, 6, 7, 8, 0, 1] rfl ?_
      exact hc32 _ _ _ _ _ _ _ _ _ hf

def f12_cutOne_102 (c32 : Int32 → Int32 → Int32 → Int32 → Int32 → Int32 → Int32 → Int32 → gz_M → Option (gz_M)) (x1 : Int32) (x2 : Int32) (x3 : Int32) (x4 : Int32) (x5 : Int32) (x6 : Int32) (x7 : Int32) (s0 : Int32) (M0 : gz_M) : Option (gz_M) := if s0 = 0 then (gz_bd2 (f12_pairOf x2 x3 x6 M0) fun v2 M3 => gz_ck (gz_inb v2 102400) <| gz_ck (gz_inb v2 102400) <| gz_lt (gz_w M3 18 v2.toNatClampNeg ((M3.1 18 v2.toNatClampNeg) + 1)) fun M7 => gz_bd2 (f12_winner x2 x3 M7) fun v8 M9 => if v8 = (-1) then (f12_cutOne_154 c32 x1 x2 x3 x4 x5 x6 x7 v2 M9) else (f12_cutOne_154 c32 x1 x2 x3 x6 v8 x6 x7 v2 M9)) else (c32 x1 x2 x3 x4 x5 x6 x7 s0 M0)
theorem b12_cutOne_102 {x : gz_X} {pf : Nat → Bool} {l : Launch} {M' : gz_M} (X : gz_Ok x cX12_cutOne RX12 11 2 gz_cfR pf l) (hc : gx_cells x ≤ (gx_R x).cells ∧ gx_slots x ≤ (gx_R x).slots) (hE : gz_EV x cX12_cutOne M') {c32 : Int32 → Int32 → Int32 → Int32 → Int32 → Int32 → Int32 → Int32 → gz_M → Option (gz_M)} (hc32 : ∀ (x1 : Int32) (x2 : Int32) (x3 : Int32) (x4 : Int32) (x5 : Int32) (x6 : Int32) (x7 : Int32) (x8 : Int32) (M0 : gz_M), c32 x1 x2 x3 x4 x5 x6 x7 x8 M0 = some M' → gz_At x 32 [(0, .ref (gx_ad x 0)), (1, .int x1), (2, .int x2), (3, .int x3), (4, .int x4), (5, .int x5), (6, .int x6), (7, .int x7), (8, .int x8)] [] M0) : ∀ (x1 : Int32) (x2 : Int32) (x3 : Int32) (x4 : Int32) (x5 : Int32) (x6 : Int32) (x7 : Int32) (s0 : Int32) (M0 : gz_M), f12_cutOne_102 c32 x1 x2 x3 x4 x5 x6 x7 s0 M0 = some M' → gz_At x 102 [(0, .ref (gx_ad x 0)), (1, .int x1), (2, .int x2), (3, .int x3), (4, .int x4), (5, .int x5), (6, .int x6), (7, .int x7)] [.int s0] M0 := by
  intro x1 x2 x3 x4 x5 x6 x7 s0 M0  hf
  rw [f12_cutOne_102] at hf
  refine gr_istore [(8, .int s0), (0, .ref (gx_ad x 0)), (1, .int x1), (2, .int x2), (3, .int x3), (4, .int x4), (5, .int x5), (6, .int x6), (7, .int x7)] X dX12_cutOne_102 rfl (by decide) rfl ?_
  refine gr_iload X dX12_cutOne_104 0 rfl ?_
  refine gr_if_eq 112 X dX12_cutOne_106 (by decide) (fun h1 => ?_) (fun h1 => ?_)
  · rw [if_pos h1] at hf
    refine gr_iload_n X dX12_cutOne_112 3 rfl rfl ?_
    refine gr_iload_n X dX12_cutOne_113 4 rfl rfl ?_
    refine gr_iload X dX12_cutOne_114 7 rfl ?_
    obtain ⟨v2, M3, q4, hf⟩ := gz_bd2e hf
    refine gr_callSI (asF := fun _ => [.int x2, .int x3, .int x6]) [.int x2, .int x3, .int x6] X (c12_pairOf q4) rfl wm_RX12_254 rfl (by decide) (by decide) rfl (Nat.le_of_ble_eq_true rfl) hc dX12_cutOne_116 ?_
    refine gr_istore [(9, .int v2), (8, .int s0), (0, .ref (gx_ad x 0)), (1, .int x1), (2, .int x2), (3, .int x3), (4, .int x4), (5, .int x5), (6, .int x6), (7, .int x7)] X dX12_cutOne_119 rfl (by decide) rfl ?_
    refine gr_aload_n X dX12_cutOne_121 2 rfl rfl ?_
    refine gf12_33 X wf_RX12_65 dX12_cutOne_122 ?_
    refine gr_iload X dX12_cutOne_125 0 rfl ?_
    refine gr_dup2 X dX12_cutOne_127 rfl rfl ?_
    obtain ⟨h5, hf⟩ := gz_cke hf
    refine gr_iaload X gk_R18 (gz_inp h5) dX12_cutOne_128 ?_
    refine gr_iconst 1 X dX12_cutOne_129 (by decide) ?_
    refine gr_iadd X dX12_cutOne_130 ?_
    obtain ⟨h6, hf⟩ := gz_cke hf
    obtain ⟨M7, eM7, hf⟩ := gz_lte hf
    refine gr_iastore X gk_R18 (gz_inp h6) eM7 dX12_cutOne_131 ?_
    refine gr_aload_n X dX12_cutOne_132 2 rfl rfl ?_
    refine gr_iload_n X dX12_cutOne_133 4 rfl rfl ?_
    refine gr_iload_n X dX12_cutOne_134 5 rfl rfl ?_
    obtain ⟨v8, M9, q10, hf⟩ := gz_bd2e hf
    refine gr_callI (asF := fun ad => [.ref (ad 0), .int x2, .int x3]) [.int x2, .int x3] X (c12_winner q10) rfl wm_RX12_258 rfl (X.kd gk_R0).1 ((X.kd gk_R0).2 _ _ _ _) rfl (by decide) (by decide) rfl (Nat.le_of_ble_eq_true rfl) hc dX12_cutOne_135 ?_
    refine gr_istore [(10, .int v8), (9, .int v2), (8, .int s0), (0, .ref (gx_ad x 0)), (1, .int x1), (2, .int x2), (3, .int x3), (4, .int x4), (5, .int x5), (6, .int x6), (7, .int x7)] X dX12_cutOne_138 rfl (by decide) rfl ?_
    refine gr_iload X dX12_cutOne_140 0 rfl ?_
    refine gr_iconst (-1) X dX12_cutOne_142 (by decide) ?_
    refine gr_icmp_eq 154 X dX12_cutOne_143 (by decide) (fun h11 => ?_) (fun h11 => ?_)
    · rw [if_pos h11] at hf
      refine gr_sub (lv' := [(0, .ref (gx_ad x 0)), (1, .int x1), (2, .int x2), (3, .int x3), (4, .int x4), (5, .int x5), (6, .int x6), (7, .int x7), (9, .int v2)]) [3, 4, 5, 6, 7, 8, 9, 10, 1] rfl ?_
      exact b12_cutOne_154 X hc hE hc32 _ _ _ _ _ _ _ _ _ hf
    · rw [if_neg h11] at hf
      refine gr_iload X dX12_cutOne_146 9 rfl ?_
      refine gr_istore [(4, .int x6), (10, .int v8), (9, .int v2), (8, .int s0), (0, .ref (gx_ad x 0)), (1, .int x1), (2, .int x2), (3, .int x3), (5, .int x5), (6, .int x6), (7, .int x7)] X dX12_cutOne_148 rfl (by decide) rfl ?_
      refine gr_iload X dX12_cutOne_150 1 rfl ?_
      refine gr_istore [(5, .int v8), (4, .int x6), (10, .int v8), (9, .int v2), (8, .int s0), (0, .ref (gx_ad x 0)), (1, .int x1), (2, .int x2), (3, .int x3), (6, .int x6), (7, .int x7)] X dX12_cutOne_152 rfl (by decide) rfl ?_
      refine gr_sub (lv' := [(0, .ref (gx_ad x 0)), (1, .int x1), (2, .int x2), (3, .int x3), (4, .int x6), (5, .int v8), (6, .int x6), (7, .int x7), (9, .int v2)]) [5, 6, 7, 8, 1, 0, 9, 10, 3] rfl ?_
      exact b12_cutOne_154 X hc hE hc32 _ _ _ _ _ _ _ _ _ hf
  · rw [if_neg h1] at hf
    refine gr_goto 32 X dX12_cutOne_109 (by decide) ?_
    refine gr_sub (lv' := [(0, .ref (gx_ad x 0)), (1, .int x1), (2, .int x2), (3, .int x3), (4, .int x4), (5, .int x5), (6, .int x6), (7, .int x7), (8, .int s0)]) [1, 2, 3, 4, 5, 6, 7, 8, 0] rfl ?_
    exact hc32 _ _ _ _ _ _ _ _ _ hf

def f12_cutOne_66 (c32 : Int32 → Int32 → Int32 → Int32 → Int32 → Int32 → Int32 → Int32 → gz_M → Option (gz_M)) (x1 : Int32) (x2 : Int32) (x4 : Int32) (x5 : Int32) (x6 : Int32) (x7 : Int32) (s0 : Int32) (s1 : Int32) (s2 : Int32) (M0 : gz_M) : Option (gz_M) := gz_ck (gz_inb (82 + x6) 106) <| gz_bd2 (f12_step s2 s1 s0 (M0.1 1 (82 + x6).toNatClampNeg) M0) fun v2 M3 => gz_lt (x6 + 1) fun v5 => gz_lt (gz_w M3 0 32 ((M3.1 0 32) + 1)) fun M6 => if v2 = 0 then (f12_cutOne_102 c32 x1 x2 v2 x4 x5 v5 x7 1 M6) else (f12_cutOne_102 c32 x1 x2 v2 x4 x5 v5 x7 0 M6)
theorem b12_cutOne_66 {x : gz_X} {pf : Nat → Bool} {l : Launch} {M' : gz_M} (X : gz_Ok x cX12_cutOne RX12 11 2 gz_cfR pf l) (hc : gx_cells x ≤ (gx_R x).cells ∧ gx_slots x ≤ (gx_R x).slots) (hE : gz_EV x cX12_cutOne M') {c32 : Int32 → Int32 → Int32 → Int32 → Int32 → Int32 → Int32 → Int32 → gz_M → Option (gz_M)} (hc32 : ∀ (x1 : Int32) (x2 : Int32) (x3 : Int32) (x4 : Int32) (x5 : Int32) (x6 : Int32) (x7 : Int32) (x8 : Int32) (M0 : gz_M), c32 x1 x2 x3 x4 x5 x6 x7 x8 M0 = some M' → gz_At x 32 [(0, .ref (gx_ad x 0)), (1, .int x1), (2, .int x2), (3, .int x3), (4, .int x4), (5, .int x5), (6, .int x6), (7, .int x7), (8, .int x8)] [] M0) : ∀ (x1 : Int32) (x2 : Int32) (x4 : Int32) (x5 : Int32) (x6 : Int32) (x7 : Int32) (s0 : Int32) (s1 : Int32) (s2 : Int32) (M0 : gz_M), f12_cutOne_66 c32 x1 x2 x4 x5 x6 x7 s0 s1 s2 M0 = some M' → gz_At x 66 [(0, .ref (gx_ad x 0)), (1, .int x1), (2, .int x2), (4, .int x4), (5, .int x5), (6, .int x6), (7, .int x7)] [.int s0, .int s1, .int s2, .ref (gx_ad x 0)] M0 := by
  intro x1 x2 x4 x5 x6 x7 s0 s1 s2 M0  hf
  rw [f12_cutOne_66] at hf
  refine gr_aload_n X dX12_cutOne_66 0 rfl rfl ?_
  refine gf12_0 X wf_RX12_9 dX12_cutOne_67 ?_
  refine gr_bipush 82 X dX12_cutOne_70 (by decide) ?_
  refine gr_iload X dX12_cutOne_72 5 rfl ?_
  refine gr_iadd X dX12_cutOne_74 ?_
  obtain ⟨h1, hf⟩ := gz_cke hf
  refine gr_iaload X gk_R1 (gz_inp h1) dX12_cutOne_75 ?_
  obtain ⟨v2, M3, q4, hf⟩ := gz_bd2e hf
  refine gr_callI (asF := fun ad => [.ref (ad 0), .int s2, .int s1, .int s0, .int (M0.1 1 (82 + x6).toNatClampNeg)]) [.int s2, .int s1, .int s0, .int (M0.1 1 (82 + x6).toNatClampNeg)] X (c12_step q4) rfl wm_RX12_250 rfl (X.kd gk_R0).1 ((X.kd gk_R0).2 _ _ _ _) rfl (by decide) (by decide) rfl (Nat.le_of_ble_eq_true rfl) hc dX12_cutOne_76 ?_
  refine gr_istore_n [(3, .int v2), (0, .ref (gx_ad x 0)), (1, .int x1), (2, .int x2), (4, .int x4), (5, .int x5), (6, .int x6), (7, .int x7)] X dX12_cutOne_79 rfl rfl (by decide) rfl ?_
  obtain ⟨v5, ev5, hf⟩ := gz_lte hf
  refine gr_iinc 1 [(6, .int v5), (3, .int v2), (0, .ref (gx_ad x 0)), (1, .int x1), (2, .int x2), (4, .int x4), (5, .int x5), (7, .int x7)] X dX12_cutOne_80 6 rfl (by decide) ev5 (by decide) rfl ?_
  refine gr_aload_n X dX12_cutOne_83 2 rfl rfl ?_
  refine gr_dup X dX12_cutOne_84 rfl ?_
  refine gf12_32 X wf_RX12_241 dX12_cutOne_85 ?_
  refine gr_iconst 1 X dX12_cutOne_88 (by decide) ?_
  refine gr_iadd X dX12_cutOne_89 ?_
  obtain ⟨M6, eM6, hf⟩ := gz_lte hf
  refine gp12_32 X wf_RX12_241 eM6 dX12_cutOne_90 ?_
  refine gr_iload_n X dX12_cutOne_93 1 rfl rfl ?_
  refine gr_if_ne 101 X dX12_cutOne_94 (by decide) (fun h7 => ?_) (fun h7 => ?_)
  · rw [if_pos h7] at hf
    refine gr_iconst 1 X dX12_cutOne_97 (by decide) ?_
    refine gr_goto 102 X dX12_cutOne_98 (by decide) ?_
    refine gr_sub (lv' := [(0, .ref (gx_ad x 0)), (1, .int x1), (2, .int x2), (3, .int v2), (4, .int x4), (5, .int x5), (6, .int v5), (7, .int x7)]) [2, 3, 4, 1, 5, 6, 0, 7] rfl ?_
    exact b12_cutOne_102 X hc hE hc32 _ _ _ _ _ _ _ _ _ hf
  · rw [if_neg h7] at hf
    refine gr_iconst 0 X dX12_cutOne_101 (by decide) ?_
    refine gr_sub (lv' := [(0, .ref (gx_ad x 0)), (1, .int x1), (2, .int x2), (3, .int v2), (4, .int x4), (5, .int x5), (6, .int v5), (7, .int x7)]) [2, 3, 4, 1, 5, 6, 0, 7] rfl ?_
    exact b12_cutOne_102 X hc hE hc32 _ _ _ _ _ _ _ _ _ hf

def f12_cutOne_32 : Nat → Int32 → Int32 → Int32 → Int32 → Int32 → Int32 → Int32 → Int32 → gz_M → Option (gz_M)
  | 0, _, _, _, _, _, _, _, _, _ => none
  | n + 1, x1, x2, x3, x4, x5, x6, x7, x8, M0 => gz_ck (gz_inb 81 106) <| if (M0.1 1 (81 : Int32).toNatClampNeg) ≤ x6 then (f12_cutOne_190 x1 x2 x3 x4 x5 x6 x7 M0) else (if x8 = 0 then (if x6 = (M0.1 0 26) then (f12_cutOne_66 (f12_cutOne_32 n) x1 x2 x4 x5 x6 x7 1 x3 x2 M0) else (f12_cutOne_66 (f12_cutOne_32 n) x1 x2 x4 x5 x6 x7 0 x3 x2 M0)) else (f12_cutOne_190 x1 x2 x3 x4 x5 x6 x7 M0))
theorem b12_cutOne_32 {x : gz_X} {pf : Nat → Bool} {l : Launch} {M' : gz_M} (X : gz_Ok x cX12_cutOne RX12 11 2 gz_cfR pf l) (hc : gx_cells x ≤ (gx_R x).cells ∧ gx_slots x ≤ (gx_R x).slots) (hE : gz_EV x cX12_cutOne M') : ∀ (n : Nat) (x1 : Int32) (x2 : Int32) (x3 : Int32) (x4 : Int32) (x5 : Int32) (x6 : Int32) (x7 : Int32) (x8 : Int32) (M0 : gz_M), f12_cutOne_32 n x1 x2 x3 x4 x5 x6 x7 x8 M0 = some M' → gz_At x 32 [(0, .ref (gx_ad x 0)), (1, .int x1), (2, .int x2), (3, .int x3), (4, .int x4), (5, .int x5), (6, .int x6), (7, .int x7), (8, .int x8)] [] M0 := by
  intro n
  induction n with
  | zero =>
    intro x1 x2 x3 x4 x5 x6 x7 x8 M0  hf
    rw [f12_cutOne_32] at hf
    cases hf
  | succ n ih =>
    intro x1 x2 x3 x4 x5 x6 x7 x8 M0  hf
    rw [f12_cutOne_32] at hf
    refine gr_iload X dX12_cutOne_32 6 rfl ?_
    refine gr_aload_n X dX12_cutOne_34 0 rfl rfl ?_
    refine gf12_0 X wf_RX12_9 dX12_cutOne_35 ?_
    refine gr_bipush 81 X dX12_cutOne_38 (by decide) ?_
    obtain ⟨h1, hf⟩ := gz_cke hf
    refine gr_iaload X gk_R1 (gz_inp h1) dX12_cutOne_40 ?_
    refine gr_icmp_ge 190 X dX12_cutOne_41 (by decide) (fun h2 => ?_) (fun h2 => ?_)
    · rw [if_pos h2] at hf
      refine gr_sub (lv' := [(0, .ref (gx_ad x 0)), (1, .int x1), (2, .int x2), (3, .int x3), (4, .int x4), (5, .int x5), (6, .int x6), (7, .int x7)]) [0, 1, 2, 3, 4, 5, 6, 7] rfl ?_
      exact b12_cutOne_190 X hc hE _ _ _ _ _ _ _ _ hf
    · rw [if_neg h2] at hf
      refine gr_iload X dX12_cutOne_44 8 rfl ?_
      refine gr_if_ne 190 X dX12_cutOne_46 (by decide) (fun h3 => ?_) (fun h3 => ?_)
      · rw [if_pos h3] at hf
        refine gr_aload_n X dX12_cutOne_49 0 rfl rfl ?_
        refine gr_iload_n X dX12_cutOne_50 2 rfl rfl ?_
        refine gr_iload_n X dX12_cutOne_51 3 rfl rfl ?_
        refine gr_iload X dX12_cutOne_52 6 rfl ?_
        refine gr_aload_n X dX12_cutOne_54 0 rfl rfl ?_
        refine gf12_26 X wf_RX12_229 dX12_cutOne_55 ?_
        refine gr_icmp_ne 65 X dX12_cutOne_58 (by decide) (fun h4 => ?_) (fun h4 => ?_)
        · rw [if_pos h4] at hf
          refine gr_iconst 1 X dX12_cutOne_61 (by decide) ?_
          refine gr_goto 66 X dX12_cutOne_62 (by decide) ?_
          refine gr_sub (lv' := [(0, .ref (gx_ad x 0)), (1, .int x1), (2, .int x2), (4, .int x4), (5, .int x5), (6, .int x6), (7, .int x7)]) [0, 1, 2, 4, 5, 6, 7] rfl ?_
          exact b12_cutOne_66 X hc hE ih _ _ _ _ _ _ _ _ _ _ hf
        · rw [if_neg h4] at hf
          refine gr_iconst 0 X dX12_cutOne_65 (by decide) ?_
          refine gr_sub (lv' := [(0, .ref (gx_ad x 0)), (1, .int x1), (2, .int x2), (4, .int x4), (5, .int x5), (6, .int x6), (7, .int x7)]) [0, 1, 2, 4, 5, 6, 7] rfl ?_
          exact b12_cutOne_66 X hc hE ih _ _ _ _ _ _ _ _ _ _ hf
      · rw [if_neg h3] at hf
        refine gr_sub (lv' := [(0, .ref (gx_ad x 0)), (1, .int x1), (2, .int x2), (3, .int x3), (4, .int x4), (5, .int x5), (6, .int x6), (7, .int x7)]) [0, 1, 2, 3, 4, 5, 6, 7] rfl ?_
        exact b12_cutOne_190 X hc hE _ _ _ _ _ _ _ _ hf

def f12_cutOne (a0 : Int32) (M0 : gz_M) : Option (gz_M) := gz_ck (gz_inb ((M0.1 0 28) - 1) 5) <| gz_lt (M0.1 16 ((M0.1 0 28) - 1).toNatClampNeg) fun v2 => gz_lt (M0.1 0 26) fun v3 => f12_cutOne_32 gz_FU a0 v2 0 (-1) (-1) v3 0 0 M0
set_option maxRecDepth 100000 in
theorem c12_cutOne {pf : Nat → Bool} {l : Launch} {M0 M' : gz_M} {a0 : Int32} (hf : f12_cutOne a0 M0 = some M') : gz_CV l gz_cfR yX12_cutOne cX12_cutOne 11 2 (fun ad => [.ref (ad 0), .int a0]) pf M0 M' := by
  refine gz_ofV (by decide +kernel) (fun _ => Nat.le_of_ble_eq_true rfl) (fun x X hc hE => ?_)
  show gz_At x 0 [(0, .ref (gx_ad x 0)), (1, .int a0)] [] M0
  unfold f12_cutOne at hf
  refine gr_aload_n X dX12_cutOne_0 0 rfl rfl ?_
  refine gf12_27 X wf_RX12_58 dX12_cutOne_1 ?_
  refine gr_aload_n X dX12_cutOne_4 0 rfl rfl ?_
  refine gf12_28 X wf_RX12_232 dX12_cutOne_5 ?_
  refine gr_iconst 1 X dX12_cutOne_8 (by decide) ?_
  refine gr_isub X dX12_cutOne_9 ?_
  obtain ⟨h1, hf⟩ := gz_cke hf
  refine gr_iaload X gk_R16 (gz_inp h1) dX12_cutOne_10 ?_
  obtain ⟨v2, ev2, hf⟩ := gz_lte hf
  refine gr_istore_n [(2, .int v2), (0, .ref (gx_ad x 0)), (1, .int a0)] X dX12_cutOne_11 ev2 rfl (by decide) rfl ?_
  refine gr_iconst 0 X dX12_cutOne_12 (by decide) ?_
  refine gr_istore_n [(3, .int 0), (2, .int v2), (0, .ref (gx_ad x 0)), (1, .int a0)] X dX12_cutOne_13 rfl rfl (by decide) rfl ?_
  refine gr_iconst (-1) X dX12_cutOne_14 (by decide) ?_
  refine gr_istore [(4, .int (-1)), (3, .int 0), (2, .int v2), (0, .ref (gx_ad x 0)), (1, .int a0)] X dX12_cutOne_15 rfl (by decide) rfl ?_
  refine gr_iconst (-1) X dX12_cutOne_17 (by decide) ?_
  refine gr_istore [(5, .int (-1)), (4, .int (-1)), (3, .int 0), (2, .int v2), (0, .ref (gx_ad x 0)), (1, .int a0)] X dX12_cutOne_18 rfl (by decide) rfl ?_
  refine gr_aload_n X dX12_cutOne_20 4 rfl rfl ?_
  refine gf12_26 X wf_RX12_229 dX12_cutOne_21 ?_
  obtain ⟨v3, ev3, hf⟩ := gz_lte hf
  refine gr_istore [(6, .int v3), (5, .int (-1)), (4, .int (-1)), (3, .int 0), (2, .int v2), (0, .ref (gx_ad x 0)), (1, .int a0)] X dX12_cutOne_24 ev3 (by decide) rfl ?_
  refine gr_iconst 0 X dX12_cutOne_26 (by decide) ?_
  refine gr_istore [(7, .int 0), (6, .int v3), (5, .int (-1)), (4, .int (-1)), (3, .int 0), (2, .int v2), (0, .ref (gx_ad x 0)), (1, .int a0)] X dX12_cutOne_27 rfl (by decide) rfl ?_
  refine gr_iconst 0 X dX12_cutOne_29 (by decide) ?_
  refine gr_istore [(8, .int 0), (7, .int 0), (6, .int v3), (5, .int (-1)), (4, .int (-1)), (3, .int 0), (2, .int v2), (0, .ref (gx_ad x 0)), (1, .int a0)] X dX12_cutOne_30 rfl (by decide) rfl ?_
  refine gr_sub (lv' := [(0, .ref (gx_ad x 0)), (1, .int a0), (2, .int v2), (3, .int 0), (4, .int (-1)), (5, .int (-1)), (6, .int v3), (7, .int 0), (8, .int 0)]) [7, 8, 6, 5, 4, 3, 2, 1, 0] rfl ?_
  exact b12_cutOne_32 X hc hE _ _ _ _ _ _ _ _ _ _ hf

def f12_forget_2 : Nat → Int32 → gz_M → Option (gz_M)
  | 0, _, _ => none
  | n + 1, x1, M0 => if 102400 ≤ x1 then (some M0) else (gz_ck (gz_inb x1 102400) <| gz_lt (gz_w M0 18 x1.toNatClampNeg 0) fun M3 => gz_ck (gz_inb x1 102400) <| gz_lt (gz_w M3 19 x1.toNatClampNeg (vp_nar .boolean 0)) fun M5 => gz_lt (x1 + 1) fun v6 => f12_forget_2 n v6 M5)
theorem b12_forget_2 {x : gz_X} {pf : Nat → Bool} {l : Launch} {M' : gz_M} (X : gz_Ok x cX12_forget RX12 2 1 gz_cfR pf l) (hc : gx_cells x ≤ (gx_R x).cells ∧ gx_slots x ≤ (gx_R x).slots) (hE : gz_EV x cX12_forget M') : ∀ (n : Nat) (x1 : Int32) (M0 : gz_M), f12_forget_2 n x1 M0 = some M' → gz_At x 2 [(0, .ref (gx_ad x 0)), (1, .int x1)] [] M0 := by
  intro n
  induction n with
  | zero =>
    intro x1 M0  hf
    rw [f12_forget_2] at hf
    cases hf
  | succ n ih =>
    intro x1 M0  hf
    rw [f12_forget_2] at hf
    refine gr_iload_n X dX12_forget_2 1 rfl rfl ?_
    refine gr_ldc 102400 X dX12_forget_3 wk_RX12_64 ?_
    refine gr_icmp_ge 28 X dX12_forget_5 (by decide) (fun h1 => ?_) (fun h1 => ?_)
    · rw [if_pos h1] at hf
      exact gz_EVu hE hf dX12_forget_28
    · rw [if_neg h1] at hf
      refine gr_aload_n X dX12_forget_8 0 rfl rfl ?_
      refine gf12_33 X wf_RX12_65 dX12_forget_9 ?_
      refine gr_iload_n X dX12_forget_12 1 rfl rfl ?_
      refine gr_iconst 0 X dX12_forget_13 (by decide) ?_
      obtain ⟨h2, hf⟩ := gz_cke hf
      obtain ⟨M3, eM3, hf⟩ := gz_lte hf
      refine gr_iastore X gk_R18 (gz_inp h2) eM3 dX12_forget_14 ?_
      refine gr_aload_n X dX12_forget_15 0 rfl rfl ?_
      refine gf12_34 X wf_RX12_68 dX12_forget_16 ?_
      refine gr_iload_n X dX12_forget_19 1 rfl rfl ?_
      refine gr_iconst 0 X dX12_forget_20 (by decide) ?_
      obtain ⟨h4, hf⟩ := gz_cke hf
      obtain ⟨M5, eM5, hf⟩ := gz_lte hf
      refine gr_zastore X gk_R19 (gz_inp h4) eM5 dX12_forget_21 ?_
      obtain ⟨v6, ev6, hf⟩ := gz_lte hf
      refine gr_iinc 1 [(1, .int v6), (0, .ref (gx_ad x 0))] X dX12_forget_22 1 rfl (by decide) ev6 (by decide) rfl ?_
      refine gr_goto 2 X dX12_forget_25 (by decide) ?_
      refine gr_sub (lv' := [(0, .ref (gx_ad x 0)), (1, .int v6)]) [1, 0] rfl ?_
      exact ih _ _ hf

def f12_forget (M0 : gz_M) : Option (gz_M) := f12_forget_2 gz_FU 0 M0
set_option maxRecDepth 100000 in
theorem c12_forget {pf : Nat → Bool} {l : Launch} {M0 M' : gz_M} (hf : f12_forget M0 = some M') : gz_CV l gz_cfR yX12_forget cX12_forget 2 1 (fun ad => [.ref (ad 0)]) pf M0 M' := by
  refine gz_ofV (by decide +kernel) (fun _ => Nat.le_of_ble_eq_true rfl) (fun x X hc hE => ?_)
  show gz_At x 0 [(0, .ref (gx_ad x 0))] [] M0
  unfold f12_forget at hf
  refine gr_iconst 0 X dX12_forget_0 (by decide) ?_
  refine gr_istore_n [(1, .int 0), (0, .ref (gx_ad x 0))] X dX12_forget_1 rfl rfl (by decide) rfl ?_
  refine gr_sub (lv' := [(0, .ref (gx_ad x 0)), (1, .int 0)]) [1, 0] rfl ?_
  exact b12_forget_2 X hc hE _ _ _ hf

def f12_cutAll_12 : Nat → Int32 → gz_M → Option (gz_M)
  | 0, _, _ => none
  | n + 1, x1, M0 => gz_ck (gz_inb 81 106) <| if (M0.1 1 (81 : Int32).toNatClampNeg) ≤ (M0.1 0 26) then (some M0) else (gz_bd (f12_cutOne x1 M0) fun M3 => f12_cutAll_12 n x1 M3)
theorem b12_cutAll_12 {x : gz_X} {pf : Nat → Bool} {l : Launch} {M' : gz_M} (X : gz_Ok x cX12_cutAll RX12 2 3 gz_cfR pf l) (hc : gx_cells x ≤ (gx_R x).cells ∧ gx_slots x ≤ (gx_R x).slots) (hE : gz_EV x cX12_cutAll M') : ∀ (n : Nat) (x1 : Int32) (M0 : gz_M), f12_cutAll_12 n x1 M0 = some M' → gz_At x 12 [(0, .ref (gx_ad x 0)), (1, .int x1)] [] M0 := by
  intro n
  induction n with
  | zero =>
    intro x1 M0  hf
    rw [f12_cutAll_12] at hf
    cases hf
  | succ n ih =>
    intro x1 M0  hf
    rw [f12_cutAll_12] at hf
    refine gr_aload_n X dX12_cutAll_12 0 rfl rfl ?_
    refine gf12_26 X wf_RX12_229 dX12_cutAll_13 ?_
    refine gr_aload_n X dX12_cutAll_16 0 rfl rfl ?_
    refine gf12_0 X wf_RX12_9 dX12_cutAll_17 ?_
    refine gr_bipush 81 X dX12_cutAll_20 (by decide) ?_
    obtain ⟨h1, hf⟩ := gz_cke hf
    refine gr_iaload X gk_R1 (gz_inp h1) dX12_cutAll_22 ?_
    refine gr_icmp_ge 34 X dX12_cutAll_23 (by decide) (fun h2 => ?_) (fun h2 => ?_)
    · rw [if_pos h2] at hf
      exact gz_EVu hE hf dX12_cutAll_34
    · rw [if_neg h2] at hf
      refine gr_aload_n X dX12_cutAll_26 0 rfl rfl ?_
      refine gr_iload_n X dX12_cutAll_27 1 rfl rfl ?_
      obtain ⟨M3, q4, hf⟩ := gz_bde hf
      refine gr_callV (asF := fun ad => [.ref (ad 0), .int x1]) [.int x1] X (c12_cutOne q4) rfl wm_RX12_270 rfl (X.kd gk_R0).1 ((X.kd gk_R0).2 _ _ _ _) rfl (by decide) (by decide) rfl (Nat.le_of_ble_eq_true rfl) hc dX12_cutAll_28 ?_
      refine gr_goto 12 X dX12_cutAll_31 (by decide) ?_
      exact ih _ _ hf

def f12_cutAll (a0 : Int32) (M0 : gz_M) : Option (gz_M) := gz_bd (f12_atFirst M0) fun M1 => if a0 = 0 then (f12_cutAll_12 gz_FU a0 M1) else (gz_bd (f12_forget M1) fun M4 => f12_cutAll_12 gz_FU a0 M4)
set_option maxRecDepth 100000 in
theorem c12_cutAll {pf : Nat → Bool} {l : Launch} {M0 M' : gz_M} {a0 : Int32} (hf : f12_cutAll a0 M0 = some M') : gz_CV l gz_cfR yX12_cutAll cX12_cutAll 2 3 (fun ad => [.ref (ad 0), .int a0]) pf M0 M' := by
  refine gz_ofV (by decide +kernel) (fun _ => Nat.le_of_ble_eq_true rfl) (fun x X hc hE => ?_)
  show gz_At x 0 [(0, .ref (gx_ad x 0)), (1, .int a0)] [] M0
  unfold f12_cutAll at hf
  refine gr_aload_n X dX12_cutAll_0 0 rfl rfl ?_
  obtain ⟨M1, q2, hf⟩ := gz_bde hf
  refine gr_callV (asF := fun ad => [.ref (ad 0)]) [] X (c12_atFirst q2) rfl wm_RX12_264 rfl (X.kd gk_R0).1 ((X.kd gk_R0).2 _ _ _ _) rfl (by decide) (by decide) rfl (Nat.le_of_ble_eq_true rfl) hc dX12_cutAll_1 ?_
  refine gr_iload_n X dX12_cutAll_4 1 rfl rfl ?_
  refine gr_if_eq 12 X dX12_cutAll_5 (by decide) (fun h3 => ?_) (fun h3 => ?_)
  · rw [if_pos h3] at hf
    exact b12_cutAll_12 X hc hE _ _ _ hf
  · rw [if_neg h3] at hf
    refine gr_aload_n X dX12_cutAll_8 0 rfl rfl ?_
    obtain ⟨M4, q5, hf⟩ := gz_bde hf
    refine gr_callV (asF := fun ad => [.ref (ad 0)]) [] X (c12_forget q5) rfl wm_RX12_267 rfl (X.kd gk_R0).1 ((X.kd gk_R0).2 _ _ _ _) rfl (by decide) (by decide) rfl (Nat.le_of_ble_eq_true rfl) hc dX12_cutAll_9 ?_
    exact b12_cutAll_12 X hc hE _ _ _ hf

def f12_of (a0 : Int32) (a1 : Int32) (M0 : gz_M) : Option (Int32 × gz_M) := gz_ck (gz_inb ((12 * a0) + a1) 300) <| some (M0.1 17 ((12 * a0) + a1).toNatClampNeg, M0)
set_option maxRecDepth 100000 in
theorem c12_of {pf : Nat → Bool} {l : Launch} {r : Int32} {M0 M' : gz_M} {a0 : Int32} {a1 : Int32} (hf : f12_of a0 a1 M0 = some (r, M')) : gz_CI l gz_cfR yX12_of cX12_of 3 1 .int (fun ad => [.ref (ad 0), .int a0, .int a1]) pf M0 r M' := by
  refine gz_ofI (by decide +kernel) (fun _ => Nat.le_of_ble_eq_true rfl) (fun x X hc hE => ?_)
  show gz_At x 0 [(0, .ref (gx_ad x 0)), (1, .int a0), (2, .int a1)] [] M0
  unfold f12_of at hf
  refine gr_aload_n X dX12_of_0 0 rfl rfl ?_
  refine gf12_30 X wf_RX12_61 dX12_of_1 ?_
  refine gr_bipush 12 X dX12_of_4 (by decide) ?_
  refine gr_iload_n X dX12_of_6 1 rfl rfl ?_
  refine gr_imul X dX12_of_7 ?_
  refine gr_iload_n X dX12_of_8 2 rfl rfl ?_
  refine gr_iadd X dX12_of_9 ?_
  obtain ⟨h1, hf⟩ := gz_cke hf
  refine gr_iaload X gk_R17 (gz_inp h1) dX12_of_10 ?_
  exact gz_EIu hE hf rfl dX12_of_11

def f12_cut_17 : Nat → Int32 → gz_M → Option (Int32 × gz_M)
  | 0, _, _ => none
  | n + 1, x1, M0 => if (M0.1 0 31) ≤ x1 then (some (M0.1 0 31, M0)) else (gz_bd2 (f12_of x1 2 M0) fun v2 M3 => gz_bd (f12_tell (v2.toInt64) M3) fun M5 => gz_lt (x1 + 1) fun v7 => f12_cut_17 n v7 M5)
theorem b12_cut_17 {x : gz_X} {pf : Nat → Bool} {l : Launch} {r : Int32} {M' : gz_M} (X : gz_Ok x cX12_cut RX12 2 4 gz_cfR pf l) (hc : gx_cells x ≤ (gx_R x).cells ∧ gx_slots x ≤ (gx_R x).slots) (hE : gz_EI x cX12_cut .int r M') : ∀ (n : Nat) (x1 : Int32) (M0 : gz_M), f12_cut_17 n x1 M0 = some (r, M') → gz_At x 17 [(0, .ref (gx_ad x 0)), (1, .int x1)] [] M0 := by
  intro n
  induction n with
  | zero =>
    intro x1 M0  hf
    rw [f12_cut_17] at hf
    cases hf
  | succ n ih =>
    intro x1 M0  hf
    rw [f12_cut_17] at hf
    refine gr_iload_n X dX12_cut_17 1 rfl rfl ?_
    refine gr_aload_n X dX12_cut_18 0 rfl rfl ?_
    refine gf12_31 X wf_RX12_238 dX12_cut_19 ?_
    refine gr_icmp_ge 42 X dX12_cut_22 (by decide) (fun h1 => ?_) (fun h1 => ?_)
    · rw [if_pos h1] at hf
      refine gr_aload_n X dX12_cut_42 0 rfl rfl ?_
      refine gf12_31 X wf_RX12_238 dX12_cut_43 ?_
      exact gz_EIu hE hf rfl dX12_cut_46
    · rw [if_neg h1] at hf
      refine gr_aload_n X dX12_cut_25 0 rfl rfl ?_
      refine gr_aload_n X dX12_cut_26 0 rfl rfl ?_
      refine gr_iload_n X dX12_cut_27 1 rfl rfl ?_
      refine gr_iconst 2 X dX12_cut_28 (by decide) ?_
      obtain ⟨v2, M3, q4, hf⟩ := gz_bd2e hf
      refine gr_callI (asF := fun ad => [.ref (ad 0), .int x1, .int 2]) [.int x1, .int 2] X (c12_of q4) rfl wm_RX12_277 rfl (X.kd gk_R0).1 ((X.kd gk_R0).2 _ _ _ _) rfl (by decide) (by decide) rfl (Nat.le_of_ble_eq_true rfl) hc dX12_cut_29 ?_
      refine gr_i2l X dX12_cut_32 ?_
      obtain ⟨M5, q6, hf⟩ := gz_bde hf
      refine gr_callV (asF := fun ad => [.ref (ad 0), .long (v2.toInt64)]) [.long (v2.toInt64)] X (c12_tell q6) rfl wm_RX12_280 rfl (X.kd gk_R0).1 ((X.kd gk_R0).2 _ _ _ _) rfl (by decide) (by decide) rfl (Nat.le_of_ble_eq_true rfl) hc dX12_cut_33 ?_
      obtain ⟨v7, ev7, hf⟩ := gz_lte hf
      refine gr_iinc 1 [(1, .int v7), (0, .ref (gx_ad x 0))] X dX12_cut_36 1 rfl (by decide) ev7 (by decide) rfl ?_
      refine gr_goto 17 X dX12_cut_39 (by decide) ?_
      refine gr_sub (lv' := [(0, .ref (gx_ad x 0)), (1, .int v7)]) [1, 0] rfl ?_
      exact ih _ _ hf

def f12_cut (M0 : gz_M) : Option (Int32 × gz_M) := gz_lt (gz_w M0 0 5 0) fun M1 => gz_bd (f12_cutAll 0 M1) fun M2 => gz_lt (gz_w M2 0 4 0) fun M4 => f12_cut_17 gz_FU 0 M4
set_option maxRecDepth 100000 in
theorem c12_cut {pf : Nat → Bool} {l : Launch} {r : Int32} {M0 M' : gz_M} (hf : f12_cut M0 = some (r, M')) : gz_CI l gz_cfR yX12_cut cX12_cut 2 4 .int (fun ad => [.ref (ad 0)]) pf M0 r M' := by
  refine gz_ofI (by decide +kernel) (fun _ => Nat.le_of_ble_eq_true rfl) (fun x X hc hE => ?_)
  show gz_At x 0 [(0, .ref (gx_ad x 0))] [] M0
  unfold f12_cut at hf
  refine gr_aload_n X dX12_cut_0 0 rfl rfl ?_
  refine gr_iconst 0 X dX12_cut_1 (by decide) ?_
  obtain ⟨M1, eM1, hf⟩ := gz_lte hf
  refine gp12_5 X wf_RX12_123 eM1 dX12_cut_2 ?_
  refine gr_aload_n X dX12_cut_5 0 rfl rfl ?_
  refine gr_iconst 0 X dX12_cut_6 (by decide) ?_
  obtain ⟨M2, q3, hf⟩ := gz_bde hf
  refine gr_callV (asF := fun ad => [.ref (ad 0), .int 0]) [.int 0] X (c12_cutAll q3) rfl wm_RX12_274 rfl (X.kd gk_R0).1 ((X.kd gk_R0).2 _ _ _ _) rfl (by decide) (by decide) rfl (Nat.le_of_ble_eq_true rfl) hc dX12_cut_7 ?_
  refine gr_aload_n X dX12_cut_10 0 rfl rfl ?_
  refine gr_iconst 0 X dX12_cut_11 (by decide) ?_
  obtain ⟨M4, eM4, hf⟩ := gz_lte hf
  refine gp12_4 X wf_RX12_127 eM4 dX12_cut_12 ?_
  refine gr_iconst 0 X dX12_cut_15 (by decide) ?_
  refine gr_istore_n [(1, .int 0), (0, .ref (gx_ad x 0))] X dX12_cut_16 rfl rfl (by decide) rfl ?_
  refine gr_sub (lv' := [(0, .ref (gx_ad x 0)), (1, .int 0)]) [1, 0] rfl ?_
  exact b12_cut_17 X hc hE _ _ _ hf

def f12_token_42 (M0 : gz_M) : Option (Int32 × gz_M) := gz_bd2 (f12_lost M0) fun v1 M2 => some (v1, M2)
theorem b12_token_42 {x : gz_X} {pf : Nat → Bool} {l : Launch} {r : Int32} {M' : gz_M} (X : gz_Ok x cX12_token RX12 3 4 gz_cfR pf l) (hc : gx_cells x ≤ (gx_R x).cells ∧ gx_slots x ≤ (gx_R x).slots) (hE : gz_EI x cX12_token .int r M') : ∀ (M0 : gz_M), f12_token_42 M0 = some (r, M') → gz_At x 42 [(0, .ref (gx_ad x 0))] [] M0 := by
  intro  M0  hf
  rw [f12_token_42] at hf
  refine gr_aload_n X dX12_token_42 0 rfl rfl ?_
  obtain ⟨v1, M2, q3, hf⟩ := gz_bd2e hf
  refine gr_callI (asF := fun ad => [.ref (ad 0)]) [] X (c12_lost q3) rfl wm_RX12_226 rfl (X.kd gk_R0).1 ((X.kd gk_R0).2 _ _ _ _) rfl (by decide) (by decide) rfl (Nat.le_of_ble_eq_true rfl) hc dX12_token_43 ?_
  exact gz_EIu hE hf rfl dX12_token_46

def f12_token (a0 : Int32) (a1 : Int32) (M0 : gz_M) : Option (Int32 × gz_M) := gz_lt (gz_w M0 0 5 0) fun M1 => gz_bd (f12_cutAll 0 M1) fun M2 => gz_bd2 (f12_in a0 0 ((M2.1 0 31) - 1) M2) fun v4 M5 => if v4 = 0 then (f12_token_42 M5) else (gz_bd2 (f12_in a1 0 5 M5) fun v8 M9 => if v8 = 0 then (f12_token_42 M9) else (gz_bd2 (f12_of a0 a1 M9) fun v12 M13 => some (v12, M13)))
set_option maxRecDepth 100000 in
theorem c12_token {pf : Nat → Bool} {l : Launch} {r : Int32} {M0 M' : gz_M} {a0 : Int32} {a1 : Int32} (hf : f12_token a0 a1 M0 = some (r, M')) : gz_CI l gz_cfR yX12_token cX12_token 3 4 .int (fun ad => [.ref (ad 0), .int a0, .int a1]) pf M0 r M' := by
  refine gz_ofI (by decide +kernel) (fun _ => Nat.le_of_ble_eq_true rfl) (fun x X hc hE => ?_)
  show gz_At x 0 [(0, .ref (gx_ad x 0)), (1, .int a0), (2, .int a1)] [] M0
  unfold f12_token at hf
  refine gr_aload_n X dX12_token_0 0 rfl rfl ?_
  refine gr_iconst 0 X dX12_token_1 (by decide) ?_
  obtain ⟨M1, eM1, hf⟩ := gz_lte hf
  refine gp12_5 X wf_RX12_123 eM1 dX12_token_2 ?_
  refine gr_aload_n X dX12_token_5 0 rfl rfl ?_
  refine gr_iconst 0 X dX12_token_6 (by decide) ?_
  obtain ⟨M2, q3, hf⟩ := gz_bde hf
  refine gr_callV (asF := fun ad => [.ref (ad 0), .int 0]) [.int 0] X (c12_cutAll q3) rfl wm_RX12_274 rfl (X.kd gk_R0).1 ((X.kd gk_R0).2 _ _ _ _) rfl (by decide) (by decide) rfl (Nat.le_of_ble_eq_true rfl) hc dX12_token_7 ?_
  refine gr_iload_n X dX12_token_10 1 rfl rfl ?_
  refine gr_iconst 0 X dX12_token_11 (by decide) ?_
  refine gr_aload_n X dX12_token_12 0 rfl rfl ?_
  refine gf12_31 X wf_RX12_238 dX12_token_13 ?_
  refine gr_iconst 1 X dX12_token_16 (by decide) ?_
  refine gr_isub X dX12_token_17 ?_
  obtain ⟨v4, M5, q6, hf⟩ := gz_bd2e hf
  refine gr_callSI (asF := fun _ => [.int a0, .int 0, .int ((M2.1 0 31) - 1)]) [.int a0, .int 0, .int ((M2.1 0 31) - 1)] X (c12_in q6) rfl wm_RX12_133 rfl (by decide) (by decide) rfl (Nat.le_of_ble_eq_true rfl) hc dX12_token_18 ?_
  refine gr_if_eq 42 X dX12_token_21 (by decide) (fun h7 => ?_) (fun h7 => ?_)
  · rw [if_pos h7] at hf
    refine gr_sub (lv' := [(0, .ref (gx_ad x 0))]) [0] rfl ?_
    exact b12_token_42 X hc hE  _ hf
  · rw [if_neg h7] at hf
    refine gr_iload_n X dX12_token_24 2 rfl rfl ?_
    refine gr_iconst 0 X dX12_token_25 (by decide) ?_
    refine gr_iconst 5 X dX12_token_26 (by decide) ?_
    obtain ⟨v8, M9, q10, hf⟩ := gz_bd2e hf
    refine gr_callSI (asF := fun _ => [.int a1, .int 0, .int 5]) [.int a1, .int 0, .int 5] X (c12_in q10) rfl wm_RX12_133 rfl (by decide) (by decide) rfl (Nat.le_of_ble_eq_true rfl) hc dX12_token_27 ?_
    refine gr_if_eq 42 X dX12_token_30 (by decide) (fun h11 => ?_) (fun h11 => ?_)
    · rw [if_pos h11] at hf
      refine gr_sub (lv' := [(0, .ref (gx_ad x 0))]) [0] rfl ?_
      exact b12_token_42 X hc hE  _ hf
    · rw [if_neg h11] at hf
      refine gr_aload_n X dX12_token_33 0 rfl rfl ?_
      refine gr_iload_n X dX12_token_34 1 rfl rfl ?_
      refine gr_iload_n X dX12_token_35 2 rfl rfl ?_
      obtain ⟨v12, M13, q14, hf⟩ := gz_bd2e hf
      refine gr_callI (asF := fun ad => [.ref (ad 0), .int a0, .int a1]) [.int a0, .int a1] X (c12_of q14) rfl wm_RX12_277 rfl (X.kd gk_R0).1 ((X.kd gk_R0).2 _ _ _ _) rfl (by decide) (by decide) rfl (Nat.le_of_ble_eq_true rfl) hc dX12_token_36 ?_
      refine gr_goto 46 X dX12_token_39 (by decide) ?_
      exact gz_EIu hE hf rfl dX12_token_46

def f12_modes_44 : Nat → Int32 → Int32 → gz_M → Option (Int32 × gz_M)
  | 0, _, _, _ => none
  | n + 1, x1, x2, M0 => if x1 = (-1) then (some (M0.1 0 4, M0)) else (gz_bd2 (f12_of x1 5 M0) fun v2 M3 => if v2 ≤ x2 then (some (M3.1 0 4, M3)) else (gz_bd2 (f12_of x1 (7 + x2) M3) fun v6 M7 => gz_bd (f12_tell (v6.toInt64) M7) fun M9 => gz_lt (x2 + 1) fun v11 => f12_modes_44 n x1 v11 M9))
theorem b12_modes_44 {x : gz_X} {pf : Nat → Bool} {l : Launch} {r : Int32} {M' : gz_M} (X : gz_Ok x cX12_modes RX12 3 4 gz_cfR pf l) (hc : gx_cells x ≤ (gx_R x).cells ∧ gx_slots x ≤ (gx_R x).slots) (hE : gz_EI x cX12_modes .int r M') : ∀ (n : Nat) (x1 : Int32) (x2 : Int32) (M0 : gz_M), f12_modes_44 n x1 x2 M0 = some (r, M') → gz_At x 44 [(0, .ref (gx_ad x 0)), (1, .int x1), (2, .int x2)] [] M0 := by
  intro n
  induction n with
  | zero =>
    intro x1 x2 M0  hf
    rw [f12_modes_44] at hf
    cases hf
  | succ n ih =>
    intro x1 x2 M0  hf
    rw [f12_modes_44] at hf
    refine gr_iload_n X dX12_modes_44 1 rfl rfl ?_
    refine gr_iconst (-1) X dX12_modes_45 (by decide) ?_
    refine gr_icmp_eq 79 X dX12_modes_46 (by decide) (fun h1 => ?_) (fun h1 => ?_)
    · rw [if_pos h1] at hf
      refine gr_aload_n X dX12_modes_79 0 rfl rfl ?_
      refine gf12_4 X wf_RX12_127 dX12_modes_80 ?_
      exact gz_EIu hE hf rfl dX12_modes_83
    · rw [if_neg h1] at hf
      refine gr_iload_n X dX12_modes_49 2 rfl rfl ?_
      refine gr_aload_n X dX12_modes_50 0 rfl rfl ?_
      refine gr_iload_n X dX12_modes_51 1 rfl rfl ?_
      refine gr_iconst 5 X dX12_modes_52 (by decide) ?_
      obtain ⟨v2, M3, q4, hf⟩ := gz_bd2e hf
      refine gr_callI (asF := fun ad => [.ref (ad 0), .int x1, .int 5]) [.int x1, .int 5] X (c12_of q4) rfl wm_RX12_277 rfl (X.kd gk_R0).1 ((X.kd gk_R0).2 _ _ _ _) rfl (by decide) (by decide) rfl (Nat.le_of_ble_eq_true rfl) hc dX12_modes_53 ?_
      refine gr_icmp_ge 79 X dX12_modes_56 (by decide) (fun h5 => ?_) (fun h5 => ?_)
      · rw [if_pos h5] at hf
        refine gr_aload_n X dX12_modes_79 0 rfl rfl ?_
        refine gf12_4 X wf_RX12_127 dX12_modes_80 ?_
        exact gz_EIu hE hf rfl dX12_modes_83
      · rw [if_neg h5] at hf
        refine gr_aload_n X dX12_modes_59 0 rfl rfl ?_
        refine gr_aload_n X dX12_modes_60 0 rfl rfl ?_
        refine gr_iload_n X dX12_modes_61 1 rfl rfl ?_
        refine gr_bipush 7 X dX12_modes_62 (by decide) ?_
        refine gr_iload_n X dX12_modes_64 2 rfl rfl ?_
        refine gr_iadd X dX12_modes_65 ?_
        obtain ⟨v6, M7, q8, hf⟩ := gz_bd2e hf
        refine gr_callI (asF := fun ad => [.ref (ad 0), .int x1, .int (7 + x2)]) [.int x1, .int (7 + x2)] X (c12_of q8) rfl wm_RX12_277 rfl (X.kd gk_R0).1 ((X.kd gk_R0).2 _ _ _ _) rfl (by decide) (by decide) rfl (Nat.le_of_ble_eq_true rfl) hc dX12_modes_66 ?_
        refine gr_i2l X dX12_modes_69 ?_
        obtain ⟨M9, q10, hf⟩ := gz_bde hf
        refine gr_callV (asF := fun ad => [.ref (ad 0), .long (v6.toInt64)]) [.long (v6.toInt64)] X (c12_tell q10) rfl wm_RX12_280 rfl (X.kd gk_R0).1 ((X.kd gk_R0).2 _ _ _ _) rfl (by decide) (by decide) rfl (Nat.le_of_ble_eq_true rfl) hc dX12_modes_70 ?_
        obtain ⟨v11, ev11, hf⟩ := gz_lte hf
        refine gr_iinc 1 [(2, .int v11), (0, .ref (gx_ad x 0)), (1, .int x1)] X dX12_modes_73 2 rfl (by decide) ev11 (by decide) rfl ?_
        refine gr_goto 44 X dX12_modes_76 (by decide) ?_
        refine gr_sub (lv' := [(0, .ref (gx_ad x 0)), (1, .int x1), (2, .int v11)]) [1, 2, 0] rfl ?_
        exact ih _ _ _ hf

def f12_modes (a0 : Int32) (M0 : gz_M) : Option (Int32 × gz_M) := gz_lt (gz_w M0 0 5 0) fun M1 => gz_bd (f12_cutAll 0 M1) fun M2 => gz_bd2 (f12_in a0 (-1) ((M2.1 0 31) - 1) M2) fun v4 M5 => if v4 = 0 then (some ((-2), M5)) else (gz_lt (gz_w M5 0 4 0) fun M8 => if a0 = (-1) then (gz_bd (f12_tell 0 M8) fun M10 => f12_modes_44 gz_FU a0 0 M10) else (f12_modes_44 gz_FU a0 0 M8))
set_option maxRecDepth 100000 in
theorem c12_modes {pf : Nat → Bool} {l : Launch} {r : Int32} {M0 M' : gz_M} {a0 : Int32} (hf : f12_modes a0 M0 = some (r, M')) : gz_CI l gz_cfR yX12_modes cX12_modes 3 4 .int (fun ad => [.ref (ad 0), .int a0]) pf M0 r M' := by
  refine gz_ofI (by decide +kernel) (fun _ => Nat.le_of_ble_eq_true rfl) (fun x X hc hE => ?_)
  show gz_At x 0 [(0, .ref (gx_ad x 0)), (1, .int a0)] [] M0
  unfold f12_modes at hf
  refine gr_aload_n X dX12_modes_0 0 rfl rfl ?_
  refine gr_iconst 0 X dX12_modes_1 (by decide) ?_
  obtain ⟨M1, eM1, hf⟩ := gz_lte hf
  refine gp12_5 X wf_RX12_123 eM1 dX12_modes_2 ?_
  refine gr_aload_n X dX12_modes_5 0 rfl rfl ?_
  refine gr_iconst 0 X dX12_modes_6 (by decide) ?_
  obtain ⟨M2, q3, hf⟩ := gz_bde hf
  refine gr_callV (asF := fun ad => [.ref (ad 0), .int 0]) [.int 0] X (c12_cutAll q3) rfl wm_RX12_274 rfl (X.kd gk_R0).1 ((X.kd gk_R0).2 _ _ _ _) rfl (by decide) (by decide) rfl (Nat.le_of_ble_eq_true rfl) hc dX12_modes_7 ?_
  refine gr_iload_n X dX12_modes_10 1 rfl rfl ?_
  refine gr_iconst (-1) X dX12_modes_11 (by decide) ?_
  refine gr_aload_n X dX12_modes_12 0 rfl rfl ?_
  refine gf12_31 X wf_RX12_238 dX12_modes_13 ?_
  refine gr_iconst 1 X dX12_modes_16 (by decide) ?_
  refine gr_isub X dX12_modes_17 ?_
  obtain ⟨v4, M5, q6, hf⟩ := gz_bd2e hf
  refine gr_callSI (asF := fun _ => [.int a0, .int (-1), .int ((M2.1 0 31) - 1)]) [.int a0, .int (-1), .int ((M2.1 0 31) - 1)] X (c12_in q6) rfl wm_RX12_133 rfl (by decide) (by decide) rfl (Nat.le_of_ble_eq_true rfl) hc dX12_modes_18 ?_
  refine gr_if_ne 27 X dX12_modes_21 (by decide) (fun h7 => ?_) (fun h7 => ?_)
  · rw [if_pos h7] at hf
    refine gr_bipush (-2) X dX12_modes_24 (by decide) ?_
    exact gz_EIu hE hf rfl dX12_modes_26
  · rw [if_neg h7] at hf
    refine gr_aload_n X dX12_modes_27 0 rfl rfl ?_
    refine gr_iconst 0 X dX12_modes_28 (by decide) ?_
    obtain ⟨M8, eM8, hf⟩ := gz_lte hf
    refine gp12_4 X wf_RX12_127 eM8 dX12_modes_29 ?_
    refine gr_iload_n X dX12_modes_32 1 rfl rfl ?_
    refine gr_iconst (-1) X dX12_modes_33 (by decide) ?_
    refine gr_icmp_ne 42 X dX12_modes_34 (by decide) (fun h9 => ?_) (fun h9 => ?_)
    · rw [if_pos h9] at hf
      refine gr_aload_n X dX12_modes_37 0 rfl rfl ?_
      refine gr_lconst 0 X dX12_modes_38 rfl ?_
      obtain ⟨M10, q11, hf⟩ := gz_bde hf
      refine gr_callV (asF := fun ad => [.ref (ad 0), .long 0]) [.long 0] X (c12_tell q11) rfl wm_RX12_280 rfl (X.kd gk_R0).1 ((X.kd gk_R0).2 _ _ _ _) rfl (by decide) (by decide) rfl (Nat.le_of_ble_eq_true rfl) hc dX12_modes_39 ?_
      refine gr_iconst 0 X dX12_modes_42 (by decide) ?_
      refine gr_istore_n [(2, .int 0), (0, .ref (gx_ad x 0)), (1, .int a0)] X dX12_modes_43 rfl rfl (by decide) rfl ?_
      refine gr_sub (lv' := [(0, .ref (gx_ad x 0)), (1, .int a0), (2, .int 0)]) [1, 2, 0] rfl ?_
      exact b12_modes_44 X hc hE _ _ _ _ hf
    · rw [if_neg h9] at hf
      refine gr_iconst 0 X dX12_modes_42 (by decide) ?_
      refine gr_istore_n [(2, .int 0), (0, .ref (gx_ad x 0)), (1, .int a0)] X dX12_modes_43 rfl rfl (by decide) rfl ?_
      refine gr_sub (lv' := [(0, .ref (gx_ad x 0)), (1, .int a0), (2, .int 0)]) [1, 2, 0] rfl ?_
      exact b12_modes_44 X hc hE _ _ _ _ hf

def f12_holds_31 : Nat → Int32 → Int32 → gz_M → Option (Int32 × gz_M)
  | 0, _, _, _ => none
  | n + 1, x1, x2, M0 => gz_bd2 (f12_of x2 2 M0) fun v1 M2 => if x1 < v1 then (some (x2, M2)) else (gz_lt (x2 + 1) fun v5 => f12_holds_31 n x1 v5 M2)
theorem b12_holds_31 {x : gz_X} {pf : Nat → Bool} {l : Launch} {r : Int32} {M' : gz_M} (X : gz_Ok x cX12_holds RX12 3 4 gz_cfR pf l) (hc : gx_cells x ≤ (gx_R x).cells ∧ gx_slots x ≤ (gx_R x).slots) (hE : gz_EI x cX12_holds .int r M') : ∀ (n : Nat) (x1 : Int32) (x2 : Int32) (M0 : gz_M), f12_holds_31 n x1 x2 M0 = some (r, M') → gz_At x 31 [(0, .ref (gx_ad x 0)), (1, .int x1), (2, .int x2)] [] M0 := by
  intro n
  induction n with
  | zero =>
    intro x1 x2 M0  hf
    rw [f12_holds_31] at hf
    cases hf
  | succ n ih =>
    intro x1 x2 M0  hf
    rw [f12_holds_31] at hf
    refine gr_aload_n X dX12_holds_31 0 rfl rfl ?_
    refine gr_iload_n X dX12_holds_32 2 rfl rfl ?_
    refine gr_iconst 2 X dX12_holds_33 (by decide) ?_
    obtain ⟨v1, M2, q3, hf⟩ := gz_bd2e hf
    refine gr_callI (asF := fun ad => [.ref (ad 0), .int x2, .int 2]) [.int x2, .int 2] X (c12_of q3) rfl wm_RX12_277 rfl (X.kd gk_R0).1 ((X.kd gk_R0).2 _ _ _ _) rfl (by decide) (by decide) rfl (Nat.le_of_ble_eq_true rfl) hc dX12_holds_34 ?_
    refine gr_iload_n X dX12_holds_37 1 rfl rfl ?_
    refine gr_icmp_gt 47 X dX12_holds_38 (by decide) (fun h4 => ?_) (fun h4 => ?_)
    · rw [if_pos h4] at hf
      refine gr_iload_n X dX12_holds_47 2 rfl rfl ?_
      exact gz_EIu hE hf rfl dX12_holds_48
    · rw [if_neg h4] at hf
      obtain ⟨v5, ev5, hf⟩ := gz_lte hf
      refine gr_iinc 1 [(2, .int v5), (0, .ref (gx_ad x 0)), (1, .int x1)] X dX12_holds_41 2 rfl (by decide) ev5 (by decide) rfl ?_
      refine gr_goto 31 X dX12_holds_44 (by decide) ?_
      refine gr_sub (lv' := [(0, .ref (gx_ad x 0)), (1, .int x1), (2, .int v5)]) [1, 2, 0] rfl ?_
      exact ih _ _ _ hf

def f12_holds (a0 : Int32) (M0 : gz_M) : Option (Int32 × gz_M) := gz_lt (gz_w M0 0 5 0) fun M1 => gz_ck (gz_inb 81 106) <| gz_bd2 (f12_in a0 0 ((M1.1 1 (81 : Int32).toNatClampNeg) - 1) M1) fun v3 M4 => if v3 = 0 then (some ((-1), M4)) else (gz_bd (f12_cutAll 0 M4) fun M7 => f12_holds_31 gz_FU a0 0 M7)
set_option maxRecDepth 100000 in
theorem c12_holds {pf : Nat → Bool} {l : Launch} {r : Int32} {M0 M' : gz_M} {a0 : Int32} (hf : f12_holds a0 M0 = some (r, M')) : gz_CI l gz_cfR yX12_holds cX12_holds 3 4 .int (fun ad => [.ref (ad 0), .int a0]) pf M0 r M' := by
  refine gz_ofI (by decide +kernel) (fun _ => Nat.le_of_ble_eq_true rfl) (fun x X hc hE => ?_)
  show gz_At x 0 [(0, .ref (gx_ad x 0)), (1, .int a0)] [] M0
  unfold f12_holds at hf
  refine gr_aload_n X dX12_holds_0 0 rfl rfl ?_
  refine gr_iconst 0 X dX12_holds_1 (by decide) ?_
  obtain ⟨M1, eM1, hf⟩ := gz_lte hf
  refine gp12_5 X wf_RX12_123 eM1 dX12_holds_2 ?_
  refine gr_iload_n X dX12_holds_5 1 rfl rfl ?_
  refine gr_iconst 0 X dX12_holds_6 (by decide) ?_
  refine gr_aload_n X dX12_holds_7 0 rfl rfl ?_
  refine gf12_0 X wf_RX12_9 dX12_holds_8 ?_
  refine gr_bipush 81 X dX12_holds_11 (by decide) ?_
  obtain ⟨h2, hf⟩ := gz_cke hf
  refine gr_iaload X gk_R1 (gz_inp h2) dX12_holds_13 ?_
  refine gr_iconst 1 X dX12_holds_14 (by decide) ?_
  refine gr_isub X dX12_holds_15 ?_
  obtain ⟨v3, M4, q5, hf⟩ := gz_bd2e hf
  refine gr_callSI (asF := fun _ => [.int a0, .int 0, .int ((M1.1 1 (81 : Int32).toNatClampNeg) - 1)]) [.int a0, .int 0, .int ((M1.1 1 (81 : Int32).toNatClampNeg) - 1)] X (c12_in q5) rfl wm_RX12_133 rfl (by decide) (by decide) rfl (Nat.le_of_ble_eq_true rfl) hc dX12_holds_16 ?_
  refine gr_if_ne 24 X dX12_holds_19 (by decide) (fun h6 => ?_) (fun h6 => ?_)
  · rw [if_pos h6] at hf
    refine gr_iconst (-1) X dX12_holds_22 (by decide) ?_
    exact gz_EIu hE hf rfl dX12_holds_23
  · rw [if_neg h6] at hf
    refine gr_aload_n X dX12_holds_24 0 rfl rfl ?_
    refine gr_iconst 0 X dX12_holds_25 (by decide) ?_
    obtain ⟨M7, q8, hf⟩ := gz_bde hf
    refine gr_callV (asF := fun ad => [.ref (ad 0), .int 0]) [.int 0] X (c12_cutAll q8) rfl wm_RX12_274 rfl (X.kd gk_R0).1 ((X.kd gk_R0).2 _ _ _ _) rfl (by decide) (by decide) rfl (Nat.le_of_ble_eq_true rfl) hc dX12_holds_26 ?_
    refine gr_iconst 0 X dX12_holds_29 (by decide) ?_
    refine gr_istore_n [(2, .int 0), (0, .ref (gx_ad x 0)), (1, .int a0)] X dX12_holds_30 rfl rfl (by decide) rfl ?_
    refine gr_sub (lv' := [(0, .ref (gx_ad x 0)), (1, .int a0), (2, .int 0)]) [1, 2, 0] rfl ?_
    exact b12_holds_31 X hc hE _ _ _ _ hf

def f12_stuckMany_4 : Nat → Int32 → Int32 → gz_M → Option (Int32 × gz_M)
  | 0, _, _, _ => none
  | n + 1, x1, x2, M0 => if (M0.1 0 31) ≤ x2 then (some (x1, M0)) else (gz_bd2 (f12_of x2 0 M0) fun v2 M3 => if v2 = (-1) then (gz_lt (x1 + 1) fun v6 => gz_lt (x2 + 1) fun v7 => f12_stuckMany_4 n v6 v7 M3) else (gz_lt (x1 + 0) fun v8 => gz_lt (x2 + 1) fun v9 => f12_stuckMany_4 n v8 v9 M3))
theorem b12_stuckMany_4 {x : gz_X} {pf : Nat → Bool} {l : Launch} {r : Int32} {M' : gz_M} (X : gz_Ok x cX12_stuckMany RX12 3 2 gz_cfR pf l) (hc : gx_cells x ≤ (gx_R x).cells ∧ gx_slots x ≤ (gx_R x).slots) (hE : gz_EI x cX12_stuckMany .int r M') : ∀ (n : Nat) (x1 : Int32) (x2 : Int32) (M0 : gz_M), f12_stuckMany_4 n x1 x2 M0 = some (r, M') → gz_At x 4 [(0, .ref (gx_ad x 0)), (1, .int x1), (2, .int x2)] [] M0 := by
  intro n
  induction n with
  | zero =>
    intro x1 x2 M0  hf
    rw [f12_stuckMany_4] at hf
    cases hf
  | succ n ih =>
    intro x1 x2 M0  hf
    rw [f12_stuckMany_4] at hf
    refine gr_iload_n X dX12_stuckMany_4 2 rfl rfl ?_
    refine gr_aload_n X dX12_stuckMany_5 0 rfl rfl ?_
    refine gf12_31 X wf_RX12_238 dX12_stuckMany_6 ?_
    refine gr_icmp_ge 36 X dX12_stuckMany_9 (by decide) (fun h1 => ?_) (fun h1 => ?_)
    · rw [if_pos h1] at hf
      refine gr_iload_n X dX12_stuckMany_36 1 rfl rfl ?_
      exact gz_EIu hE hf rfl dX12_stuckMany_37
    · rw [if_neg h1] at hf
      refine gr_iload_n X dX12_stuckMany_12 1 rfl rfl ?_
      refine gr_aload_n X dX12_stuckMany_13 0 rfl rfl ?_
      refine gr_iload_n X dX12_stuckMany_14 2 rfl rfl ?_
      refine gr_iconst 0 X dX12_stuckMany_15 (by decide) ?_
      obtain ⟨v2, M3, q4, hf⟩ := gz_bd2e hf
      refine gr_callI (asF := fun ad => [.ref (ad 0), .int x2, .int 0]) [.int x2, .int 0] X (c12_of q4) rfl wm_RX12_277 rfl (X.kd gk_R0).1 ((X.kd gk_R0).2 _ _ _ _) rfl (by decide) (by decide) rfl (Nat.le_of_ble_eq_true rfl) hc dX12_stuckMany_16 ?_
      refine gr_iconst (-1) X dX12_stuckMany_19 (by decide) ?_
      refine gr_icmp_ne 27 X dX12_stuckMany_20 (by decide) (fun h5 => ?_) (fun h5 => ?_)
      · rw [if_pos h5] at hf
        refine gr_iconst 1 X dX12_stuckMany_23 (by decide) ?_
        refine gr_goto 28 X dX12_stuckMany_24 (by decide) ?_
        refine gr_iadd X dX12_stuckMany_28 ?_
        obtain ⟨v6, ev6, hf⟩ := gz_lte hf
        refine gr_istore_n [(1, .int v6), (0, .ref (gx_ad x 0)), (2, .int x2)] X dX12_stuckMany_29 ev6 rfl (by decide) rfl ?_
        obtain ⟨v7, ev7, hf⟩ := gz_lte hf
        refine gr_iinc 1 [(2, .int v7), (1, .int v6), (0, .ref (gx_ad x 0))] X dX12_stuckMany_30 2 rfl (by decide) ev7 (by decide) rfl ?_
        refine gr_goto 4 X dX12_stuckMany_33 (by decide) ?_
        refine gr_sub (lv' := [(0, .ref (gx_ad x 0)), (1, .int v6), (2, .int v7)]) [2, 1, 0] rfl ?_
        exact ih _ _ _ hf
      · rw [if_neg h5] at hf
        refine gr_iconst 0 X dX12_stuckMany_27 (by decide) ?_
        refine gr_iadd X dX12_stuckMany_28 ?_
        obtain ⟨v8, ev8, hf⟩ := gz_lte hf
        refine gr_istore_n [(1, .int v8), (0, .ref (gx_ad x 0)), (2, .int x2)] X dX12_stuckMany_29 ev8 rfl (by decide) rfl ?_
        obtain ⟨v9, ev9, hf⟩ := gz_lte hf
        refine gr_iinc 1 [(2, .int v9), (1, .int v8), (0, .ref (gx_ad x 0))] X dX12_stuckMany_30 2 rfl (by decide) ev9 (by decide) rfl ?_
        refine gr_goto 4 X dX12_stuckMany_33 (by decide) ?_
        refine gr_sub (lv' := [(0, .ref (gx_ad x 0)), (1, .int v8), (2, .int v9)]) [2, 1, 0] rfl ?_
        exact ih _ _ _ hf

def f12_stuckMany (M0 : gz_M) : Option (Int32 × gz_M) := f12_stuckMany_4 gz_FU 0 0 M0
set_option maxRecDepth 100000 in
theorem c12_stuckMany {pf : Nat → Bool} {l : Launch} {r : Int32} {M0 M' : gz_M} (hf : f12_stuckMany M0 = some (r, M')) : gz_CI l gz_cfR yX12_stuckMany cX12_stuckMany 3 2 .int (fun ad => [.ref (ad 0)]) pf M0 r M' := by
  refine gz_ofI (by decide +kernel) (fun _ => Nat.le_of_ble_eq_true rfl) (fun x X hc hE => ?_)
  show gz_At x 0 [(0, .ref (gx_ad x 0))] [] M0
  unfold f12_stuckMany at hf
  refine gr_iconst 0 X dX12_stuckMany_0 (by decide) ?_
  refine gr_istore_n [(1, .int 0), (0, .ref (gx_ad x 0))] X dX12_stuckMany_1 rfl rfl (by decide) rfl ?_
  refine gr_iconst 0 X dX12_stuckMany_2 (by decide) ?_
  refine gr_istore_n [(2, .int 0), (1, .int 0), (0, .ref (gx_ad x 0))] X dX12_stuckMany_3 rfl rfl (by decide) rfl ?_
  refine gr_sub (lv' := [(0, .ref (gx_ad x 0)), (1, .int 0), (2, .int 0)]) [2, 1, 0] rfl ?_
  exact b12_stuckMany_4 X hc hE _ _ _ _ hf

def f12_stuck_17 : Nat → Int32 → gz_M → Option (Int32 × gz_M)
  | 0, _, _ => none
  | n + 1, x1, M0 => if (M0.1 0 31) ≤ x1 then (gz_bd2 (f12_stuckMany M0) fun v2 M3 => some (v2, M3)) else (gz_bd2 (f12_of x1 0 M0) fun v5 M6 => if v5 = (-1) then (gz_bd2 (f12_of x1 1 M6) fun v9 M10 => gz_bd (f12_tell (v9.toInt64) M10) fun M12 => gz_bd2 (f12_of x1 6 M12) fun v14 M15 => gz_bd (f12_tell (v14.toInt64) M15) fun M17 => gz_lt (x1 + 1) fun v19 => f12_stuck_17 n v19 M17) else (gz_lt (x1 + 1) fun v20 => f12_stuck_17 n v20 M6))
theorem b12_stuck_17 {x : gz_X} {pf : Nat → Bool} {l : Launch} {r : Int32} {M' : gz_M} (X : gz_Ok x cX12_stuck RX12 2 4 gz_cfR pf l) (hc : gx_cells x ≤ (gx_R x).cells ∧ gx_slots x ≤ (gx_R x).slots) (hE : gz_EI x cX12_stuck .int r M') : ∀ (n : Nat) (x1 : Int32) (M0 : gz_M), f12_stuck_17 n x1 M0 = some (r, M') → gz_At x 17 [(0, .ref (gx_ad x 0)), (1, .int x1)] [] M0 := by
  intro n
  induction n with
  | zero =>
    intro x1 M0  hf
    rw [f12_stuck_17] at hf
    cases hf
  | succ n ih =>
    intro x1 M0  hf
    rw [f12_stuck_17] at hf
    refine gr_iload_n X dX12_stuck_17 1 rfl rfl ?_
    refine gr_aload_n X dX12_stuck_18 0 rfl rfl ?_
    refine gf12_31 X wf_RX12_238 dX12_stuck_19 ?_
    refine gr_icmp_ge 67 X dX12_stuck_22 (by decide) (fun h1 => ?_) (fun h1 => ?_)
    · rw [if_pos h1] at hf
      refine gr_aload_n X dX12_stuck_67 0 rfl rfl ?_
      obtain ⟨v2, M3, q4, hf⟩ := gz_bd2e hf
      refine gr_callI (asF := fun ad => [.ref (ad 0)]) [] X (c12_stuckMany q4) rfl wm_RX12_284 rfl (X.kd gk_R0).1 ((X.kd gk_R0).2 _ _ _ _) rfl (by decide) (by decide) rfl (Nat.le_of_ble_eq_true rfl) hc dX12_stuck_68 ?_
      exact gz_EIu hE hf rfl dX12_stuck_71
    · rw [if_neg h1] at hf
      refine gr_aload_n X dX12_stuck_25 0 rfl rfl ?_
      refine gr_iload_n X dX12_stuck_26 1 rfl rfl ?_
      refine gr_iconst 0 X dX12_stuck_27 (by decide) ?_
      obtain ⟨v5, M6, q7, hf⟩ := gz_bd2e hf
      refine gr_callI (asF := fun ad => [.ref (ad 0), .int x1, .int 0]) [.int x1, .int 0] X (c12_of q7) rfl wm_RX12_277 rfl (X.kd gk_R0).1 ((X.kd gk_R0).2 _ _ _ _) rfl (by decide) (by decide) rfl (Nat.le_of_ble_eq_true rfl) hc dX12_stuck_28 ?_
      refine gr_iconst (-1) X dX12_stuck_31 (by decide) ?_
      refine gr_icmp_eq 38 X dX12_stuck_32 (by decide) (fun h8 => ?_) (fun h8 => ?_)
      · rw [if_pos h8] at hf
        refine gr_aload_n X dX12_stuck_38 0 rfl rfl ?_
        refine gr_aload_n X dX12_stuck_39 0 rfl rfl ?_
        refine gr_iload_n X dX12_stuck_40 1 rfl rfl ?_
        refine gr_iconst 1 X dX12_stuck_41 (by decide) ?_
        obtain ⟨v9, M10, q11, hf⟩ := gz_bd2e hf
        refine gr_callI (asF := fun ad => [.ref (ad 0), .int x1, .int 1]) [.int x1, .int 1] X (c12_of q11) rfl wm_RX12_277 rfl (X.kd gk_R0).1 ((X.kd gk_R0).2 _ _ _ _) rfl (by decide) (by decide) rfl (Nat.le_of_ble_eq_true rfl) hc dX12_stuck_42 ?_
        refine gr_i2l X dX12_stuck_45 ?_
        obtain ⟨M12, q13, hf⟩ := gz_bde hf
        refine gr_callV (asF := fun ad => [.ref (ad 0), .long (v9.toInt64)]) [.long (v9.toInt64)] X (c12_tell q13) rfl wm_RX12_280 rfl (X.kd gk_R0).1 ((X.kd gk_R0).2 _ _ _ _) rfl (by decide) (by decide) rfl (Nat.le_of_ble_eq_true rfl) hc dX12_stuck_46 ?_
        refine gr_aload_n X dX12_stuck_49 0 rfl rfl ?_
        refine gr_aload_n X dX12_stuck_50 0 rfl rfl ?_
        refine gr_iload_n X dX12_stuck_51 1 rfl rfl ?_
        refine gr_bipush 6 X dX12_stuck_52 (by decide) ?_
        obtain ⟨v14, M15, q16, hf⟩ := gz_bd2e hf
        refine gr_callI (asF := fun ad => [.ref (ad 0), .int x1, .int 6]) [.int x1, .int 6] X (c12_of q16) rfl wm_RX12_277 rfl (X.kd gk_R0).1 ((X.kd gk_R0).2 _ _ _ _) rfl (by decide) (by decide) rfl (Nat.le_of_ble_eq_true rfl) hc dX12_stuck_54 ?_
        refine gr_i2l X dX12_stuck_57 ?_
        obtain ⟨M17, q18, hf⟩ := gz_bde hf
        refine gr_callV (asF := fun ad => [.ref (ad 0), .long (v14.toInt64)]) [.long (v14.toInt64)] X (c12_tell q18) rfl wm_RX12_280 rfl (X.kd gk_R0).1 ((X.kd gk_R0).2 _ _ _ _) rfl (by decide) (by decide) rfl (Nat.le_of_ble_eq_true rfl) hc dX12_stuck_58 ?_
        obtain ⟨v19, ev19, hf⟩ := gz_lte hf
        refine gr_iinc 1 [(1, .int v19), (0, .ref (gx_ad x 0))] X dX12_stuck_61 1 rfl (by decide) ev19 (by decide) rfl ?_
        refine gr_goto 17 X dX12_stuck_64 (by decide) ?_
        refine gr_sub (lv' := [(0, .ref (gx_ad x 0)), (1, .int v19)]) [1, 0] rfl ?_
        exact ih _ _ hf
      · rw [if_neg h8] at hf
        refine gr_goto 61 X dX12_stuck_35 (by decide) ?_
        obtain ⟨v20, ev20, hf⟩ := gz_lte hf
        refine gr_iinc 1 [(1, .int v20), (0, .ref (gx_ad x 0))] X dX12_stuck_61 1 rfl (by decide) ev20 (by decide) rfl ?_
        refine gr_goto 17 X dX12_stuck_64 (by decide) ?_
        refine gr_sub (lv' := [(0, .ref (gx_ad x 0)), (1, .int v20)]) [1, 0] rfl ?_
        exact ih _ _ hf

def f12_stuck (M0 : gz_M) : Option (Int32 × gz_M) := gz_lt (gz_w M0 0 5 0) fun M1 => gz_bd (f12_cutAll 0 M1) fun M2 => gz_lt (gz_w M2 0 4 0) fun M4 => f12_stuck_17 gz_FU 0 M4
set_option maxRecDepth 100000 in
theorem c12_stuck {pf : Nat → Bool} {l : Launch} {r : Int32} {M0 M' : gz_M} (hf : f12_stuck M0 = some (r, M')) : gz_CI l gz_cfR yX12_stuck cX12_stuck 2 4 .int (fun ad => [.ref (ad 0)]) pf M0 r M' := by
  refine gz_ofI (by decide +kernel) (fun _ => Nat.le_of_ble_eq_true rfl) (fun x X hc hE => ?_)
  show gz_At x 0 [(0, .ref (gx_ad x 0))] [] M0
  unfold f12_stuck at hf
  refine gr_aload_n X dX12_stuck_0 0 rfl rfl ?_
  refine gr_iconst 0 X dX12_stuck_1 (by decide) ?_
  obtain ⟨M1, eM1, hf⟩ := gz_lte hf
  refine gp12_5 X wf_RX12_123 eM1 dX12_stuck_2 ?_
  refine gr_aload_n X dX12_stuck_5 0 rfl rfl ?_
  refine gr_iconst 0 X dX12_stuck_6 (by decide) ?_
  obtain ⟨M2, q3, hf⟩ := gz_bde hf
  refine gr_callV (asF := fun ad => [.ref (ad 0), .int 0]) [.int 0] X (c12_cutAll q3) rfl wm_RX12_274 rfl (X.kd gk_R0).1 ((X.kd gk_R0).2 _ _ _ _) rfl (by decide) (by decide) rfl (Nat.le_of_ble_eq_true rfl) hc dX12_stuck_7 ?_
  refine gr_aload_n X dX12_stuck_10 0 rfl rfl ?_
  refine gr_iconst 0 X dX12_stuck_11 (by decide) ?_
  obtain ⟨M4, eM4, hf⟩ := gz_lte hf
  refine gp12_4 X wf_RX12_127 eM4 dX12_stuck_12 ?_
  refine gr_iconst 0 X dX12_stuck_15 (by decide) ?_
  refine gr_istore_n [(1, .int 0), (0, .ref (gx_ad x 0))] X dX12_stuck_16 rfl rfl (by decide) rfl ?_
  refine gr_sub (lv' := [(0, .ref (gx_ad x 0)), (1, .int 0)]) [1, 0] rfl ?_
  exact b12_stuck_17 X hc hE _ _ _ hf

def f12_by_34 : Nat → Int32 → Int32 → gz_M → Option (Int32 × gz_M)
  | 0, _, _, _ => none
  | n + 1, x1, x2, M0 => if (M0.1 0 31) ≤ x2 then (some (M0.1 0 4, M0)) else (gz_bd2 (f12_of x2 0 M0) fun v2 M3 => if v2 = x1 then (gz_bd (f12_tell (x2.toInt64) M3) fun M6 => gz_lt (x2 + 1) fun v8 => f12_by_34 n x1 v8 M6) else (gz_lt (x2 + 1) fun v9 => f12_by_34 n x1 v9 M3))
theorem b12_by_34 {x : gz_X} {pf : Nat → Bool} {l : Launch} {r : Int32} {M' : gz_M} (X : gz_Ok x cX12_by RX12 3 4 gz_cfR pf l) (hc : gx_cells x ≤ (gx_R x).cells ∧ gx_slots x ≤ (gx_R x).slots) (hE : gz_EI x cX12_by .int r M') : ∀ (n : Nat) (x1 : Int32) (x2 : Int32) (M0 : gz_M), f12_by_34 n x1 x2 M0 = some (r, M') → gz_At x 34 [(0, .ref (gx_ad x 0)), (1, .int x1), (2, .int x2)] [] M0 := by
  intro n
  induction n with
  | zero =>
    intro x1 x2 M0  hf
    rw [f12_by_34] at hf
    cases hf
  | succ n ih =>
    intro x1 x2 M0  hf
    rw [f12_by_34] at hf
    refine gr_iload_n X dX12_by_34 2 rfl rfl ?_
    refine gr_aload_n X dX12_by_35 0 rfl rfl ?_
    refine gf12_31 X wf_RX12_238 dX12_by_36 ?_
    refine gr_icmp_ge 64 X dX12_by_39 (by decide) (fun h1 => ?_) (fun h1 => ?_)
    · rw [if_pos h1] at hf
      refine gr_aload_n X dX12_by_64 0 rfl rfl ?_
      refine gf12_4 X wf_RX12_127 dX12_by_65 ?_
      exact gz_EIu hE hf rfl dX12_by_68
    · rw [if_neg h1] at hf
      refine gr_aload_n X dX12_by_42 0 rfl rfl ?_
      refine gr_iload_n X dX12_by_43 2 rfl rfl ?_
      refine gr_iconst 0 X dX12_by_44 (by decide) ?_
      obtain ⟨v2, M3, q4, hf⟩ := gz_bd2e hf
      refine gr_callI (asF := fun ad => [.ref (ad 0), .int x2, .int 0]) [.int x2, .int 0] X (c12_of q4) rfl wm_RX12_277 rfl (X.kd gk_R0).1 ((X.kd gk_R0).2 _ _ _ _) rfl (by decide) (by decide) rfl (Nat.le_of_ble_eq_true rfl) hc dX12_by_45 ?_
      refine gr_iload_n X dX12_by_48 1 rfl rfl ?_
      refine gr_icmp_ne 58 X dX12_by_49 (by decide) (fun h5 => ?_) (fun h5 => ?_)
      · rw [if_pos h5] at hf
        refine gr_aload_n X dX12_by_52 0 rfl rfl ?_
        refine gr_iload_n X dX12_by_53 2 rfl rfl ?_
        refine gr_i2l X dX12_by_54 ?_
        obtain ⟨M6, q7, hf⟩ := gz_bde hf
        refine gr_callV (asF := fun ad => [.ref (ad 0), .long (x2.toInt64)]) [.long (x2.toInt64)] X (c12_tell q7) rfl wm_RX12_280 rfl (X.kd gk_R0).1 ((X.kd gk_R0).2 _ _ _ _) rfl (by decide) (by decide) rfl (Nat.le_of_ble_eq_true rfl) hc dX12_by_55 ?_
        obtain ⟨v8, ev8, hf⟩ := gz_lte hf
        refine gr_iinc 1 [(2, .int v8), (0, .ref (gx_ad x 0)), (1, .int x1)] X dX12_by_58 2 rfl (by decide) ev8 (by decide) rfl ?_
        refine gr_goto 34 X dX12_by_61 (by decide) ?_
        refine gr_sub (lv' := [(0, .ref (gx_ad x 0)), (1, .int x1), (2, .int v8)]) [1, 2, 0] rfl ?_
        exact ih _ _ _ hf
      · rw [if_neg h5] at hf
        obtain ⟨v9, ev9, hf⟩ := gz_lte hf
        refine gr_iinc 1 [(2, .int v9), (0, .ref (gx_ad x 0)), (1, .int x1)] X dX12_by_58 2 rfl (by decide) ev9 (by decide) rfl ?_
        refine gr_goto 34 X dX12_by_61 (by decide) ?_
        refine gr_sub (lv' := [(0, .ref (gx_ad x 0)), (1, .int x1), (2, .int v9)]) [1, 2, 0] rfl ?_
        exact ih _ _ _ hf

def f12_by (a0 : Int32) (M0 : gz_M) : Option (Int32 × gz_M) := gz_lt (gz_w M0 0 5 0) fun M1 => gz_bd2 (f12_in a0 (-1) ((M1.1 0 10) - 1) M1) fun v2 M3 => if v2 = 0 then (some ((-2), M3)) else (gz_bd (f12_cutAll 0 M3) fun M6 => gz_lt (gz_w M6 0 4 0) fun M8 => f12_by_34 gz_FU a0 0 M8)
set_option maxRecDepth 100000 in
theorem c12_by {pf : Nat → Bool} {l : Launch} {r : Int32} {M0 M' : gz_M} {a0 : Int32} (hf : f12_by a0 M0 = some (r, M')) : gz_CI l gz_cfR yX12_by cX12_by 3 4 .int (fun ad => [.ref (ad 0), .int a0]) pf M0 r M' := by
  refine gz_ofI (by decide +kernel) (fun _ => Nat.le_of_ble_eq_true rfl) (fun x X hc hE => ?_)
  show gz_At x 0 [(0, .ref (gx_ad x 0)), (1, .int a0)] [] M0
  unfold f12_by at hf
  refine gr_aload_n X dX12_by_0 0 rfl rfl ?_
  refine gr_iconst 0 X dX12_by_1 (by decide) ?_
  obtain ⟨M1, eM1, hf⟩ := gz_lte hf
  refine gp12_5 X wf_RX12_123 eM1 dX12_by_2 ?_
  refine gr_iload_n X dX12_by_5 1 rfl rfl ?_
  refine gr_iconst (-1) X dX12_by_6 (by decide) ?_
  refine gr_aload_n X dX12_by_7 0 rfl rfl ?_
  refine gf12_10 X wf_RX12_202 dX12_by_8 ?_
  refine gr_iconst 1 X dX12_by_11 (by decide) ?_
  refine gr_isub X dX12_by_12 ?_
  obtain ⟨v2, M3, q4, hf⟩ := gz_bd2e hf
  refine gr_callSI (asF := fun _ => [.int a0, .int (-1), .int ((M1.1 0 10) - 1)]) [.int a0, .int (-1), .int ((M1.1 0 10) - 1)] X (c12_in q4) rfl wm_RX12_133 rfl (by decide) (by decide) rfl (Nat.le_of_ble_eq_true rfl) hc dX12_by_13 ?_
  refine gr_if_ne 22 X dX12_by_16 (by decide) (fun h5 => ?_) (fun h5 => ?_)
  · rw [if_pos h5] at hf
    refine gr_bipush (-2) X dX12_by_19 (by decide) ?_
    exact gz_EIu hE hf rfl dX12_by_21
  · rw [if_neg h5] at hf
    refine gr_aload_n X dX12_by_22 0 rfl rfl ?_
    refine gr_iconst 0 X dX12_by_23 (by decide) ?_
    obtain ⟨M6, q7, hf⟩ := gz_bde hf
    refine gr_callV (asF := fun ad => [.ref (ad 0), .int 0]) [.int 0] X (c12_cutAll q7) rfl wm_RX12_274 rfl (X.kd gk_R0).1 ((X.kd gk_R0).2 _ _ _ _) rfl (by decide) (by decide) rfl (Nat.le_of_ble_eq_true rfl) hc dX12_by_24 ?_
    refine gr_aload_n X dX12_by_27 0 rfl rfl ?_
    refine gr_iconst 0 X dX12_by_28 (by decide) ?_
    obtain ⟨M8, eM8, hf⟩ := gz_lte hf
    refine gp12_4 X wf_RX12_127 eM8 dX12_by_29 ?_
    refine gr_iconst 0 X dX12_by_32 (by decide) ?_
    refine gr_istore_n [(2, .int 0), (0, .ref (gx_ad x 0)), (1, .int a0)] X dX12_by_33 rfl rfl (by decide) rfl ?_
    refine gr_sub (lv' := [(0, .ref (gx_ad x 0)), (1, .int a0), (2, .int 0)]) [1, 2, 0] rfl ?_
    exact b12_by_34 X hc hE _ _ _ _ hf

def f12_layOld_2 : Nat → Int32 → gz_M → Option (gz_M)
  | 0, _, _ => none
  | n + 1, x1, M0 => if 300 ≤ x1 then (gz_lt (gz_w M0 0 39 (M0.1 0 31)) fun M2 => some M2) else (gz_ck (gz_inb x1 300) <| gz_ck (gz_inb x1 300) <| gz_lt (gz_w M0 23 x1.toNatClampNeg (M0.1 17 x1.toNatClampNeg)) fun M5 => gz_lt (x1 + 1) fun v6 => f12_layOld_2 n v6 M5)
theorem b12_layOld_2 {x : gz_X} {pf : Nat → Bool} {l : Launch} {M' : gz_M} (X : gz_Ok x cX12_layOld RX12 2 1 gz_cfR pf l) (hc : gx_cells x ≤ (gx_R x).cells ∧ gx_slots x ≤ (gx_R x).slots) (hE : gz_EV x cX12_layOld M') : ∀ (n : Nat) (x1 : Int32) (M0 : gz_M), f12_layOld_2 n x1 M0 = some M' → gz_At x 2 [(0, .ref (gx_ad x 0)), (1, .int x1)] [] M0 := by
  intro n
  induction n with
  | zero =>
    intro x1 M0  hf
    rw [f12_layOld_2] at hf
    cases hf
  | succ n ih =>
    intro x1 M0  hf
    rw [f12_layOld_2] at hf
    refine gr_iload_n X dX12_layOld_2 1 rfl rfl ?_
    refine gr_aload_n X dX12_layOld_3 0 rfl rfl ?_
    refine gf12_38 X wf_RX12_80 dX12_layOld_4 ?_
    refine gr_arraylength X gk_R23 (300) (by decide) dX12_layOld_7 ?_
    refine gr_icmp_ge 29 X dX12_layOld_8 (by decide) (fun h1 => ?_) (fun h1 => ?_)
    · rw [if_pos h1] at hf
      refine gr_aload_n X dX12_layOld_29 0 rfl rfl ?_
      refine gr_aload_n X dX12_layOld_30 0 rfl rfl ?_
      refine gf12_31 X wf_RX12_238 dX12_layOld_31 ?_
      obtain ⟨M2, eM2, hf⟩ := gz_lte hf
      refine gp12_39 X wf_RX12_287 eM2 dX12_layOld_34 ?_
      exact gz_EVu hE hf dX12_layOld_37
    · rw [if_neg h1] at hf
      refine gr_aload_n X dX12_layOld_11 0 rfl rfl ?_
      refine gf12_38 X wf_RX12_80 dX12_layOld_12 ?_
      refine gr_iload_n X dX12_layOld_15 1 rfl rfl ?_
      refine gr_aload_n X dX12_layOld_16 0 rfl rfl ?_
      refine gf12_30 X wf_RX12_61 dX12_layOld_17 ?_
      refine gr_iload_n X dX12_layOld_20 1 rfl rfl ?_
      obtain ⟨h3, hf⟩ := gz_cke hf
      refine gr_iaload X gk_R17 (gz_inp h3) dX12_layOld_21 ?_
      obtain ⟨h4, hf⟩ := gz_cke hf
      obtain ⟨M5, eM5, hf⟩ := gz_lte hf
      refine gr_iastore X gk_R23 (gz_inp h4) eM5 dX12_layOld_22 ?_
      obtain ⟨v6, ev6, hf⟩ := gz_lte hf
      refine gr_iinc 1 [(1, .int v6), (0, .ref (gx_ad x 0))] X dX12_layOld_23 1 rfl (by decide) ev6 (by decide) rfl ?_
      refine gr_goto 2 X dX12_layOld_26 (by decide) ?_
      refine gr_sub (lv' := [(0, .ref (gx_ad x 0)), (1, .int v6)]) [1, 0] rfl ?_
      exact ih _ _ hf

def f12_layOld (M0 : gz_M) : Option (gz_M) := f12_layOld_2 gz_FU 0 M0
set_option maxRecDepth 100000 in
theorem c12_layOld {pf : Nat → Bool} {l : Launch} {M0 M' : gz_M} (hf : f12_layOld M0 = some M') : gz_CV l gz_cfR yX12_layOld cX12_layOld 2 1 (fun ad => [.ref (ad 0)]) pf M0 M' := by
  refine gz_ofV (by decide +kernel) (fun _ => Nat.le_of_ble_eq_true rfl) (fun x X hc hE => ?_)
  show gz_At x 0 [(0, .ref (gx_ad x 0))] [] M0
  unfold f12_layOld at hf
  refine gr_iconst 0 X dX12_layOld_0 (by decide) ?_
  refine gr_istore_n [(1, .int 0), (0, .ref (gx_ad x 0))] X dX12_layOld_1 rfl rfl (by decide) rfl ?_
  refine gr_sub (lv' := [(0, .ref (gx_ad x 0)), (1, .int 0)]) [1, 0] rfl ?_
  exact b12_layOld_2 X hc hE _ _ _ hf

def f12_isMode (a0 : Int32) (M0 : gz_M) : Option (Int32 × gz_M) := gz_bd2 (f12_in a0 0 3 M0) fun v1 M2 => gz_ck (gz_b01 v1) <| some (v1, M2)
set_option maxRecDepth 100000 in
theorem c12_isMode {pf : Nat → Bool} {l : Launch} {r : Int32} {M0 M' : gz_M} {a0 : Int32} (hf : f12_isMode a0 M0 = some (r, M')) : gz_CI l gz_cfR yX12_isMode cX12_isMode 1 2 .boolean (fun _ => [.int a0]) pf M0 r M' := by
  refine gz_ofI (by decide +kernel) (fun _ => Nat.le_of_ble_eq_true rfl) (fun x X hc hE => ?_)
  show gz_At x 0 [(0, .int a0)] [] M0
  unfold f12_isMode at hf
  refine gr_iload_n X dX12_isMode_0 0 rfl rfl ?_
  refine gr_iconst 0 X dX12_isMode_1 (by decide) ?_
  refine gr_iconst 3 X dX12_isMode_2 (by decide) ?_
  obtain ⟨v1, M2, q3, hf⟩ := gz_bd2e hf
  refine gr_callSI (asF := fun _ => [.int a0, .int 0, .int 3]) [.int a0, .int 0, .int 3] X (c12_in q3) rfl wm_RX12_133 rfl (by decide) (by decide) rfl (Nat.le_of_ble_eq_true rfl) hc dX12_isMode_3 ?_
  obtain ⟨h4, hf⟩ := gz_cke hf
  exact gz_EIu hE hf (gz_nb01 h4).1 dX12_isMode_6

def f12_moded_29 : Nat → Int32 → Int32 → Int32 → Int32 → Int32 → gz_M → Option (Int32 × gz_M)
  | 0, _, _, _, _, _, _ => none
  | n + 1, x1, x2, x3, x4, x5, M0 => if (M0.1 0 31) ≤ x5 then (gz_lt (gz_w M0 0 4 0) fun M2 => gz_bd (f12_tell (x3.toInt64) M2) fun M3 => gz_bd (f12_tell (x4.toInt64) M3) fun M5 => some (x2, M5)) else (gz_bd2 (f12_of x5 4 M0) fun v7 M8 => if v7 = x1 then (gz_lt (x2 + 1) fun v11 => gz_bd2 (f12_of x5 2 M8) fun v12 M13 => gz_bd2 (f12_of x5 1 M13) fun v15 M16 => gz_lt (x3 + (v12 - v15)) fun v18 => gz_bd2 (f12_of x5 0 M16) fun v19 M20 => if v19 = (-1) then (gz_lt (x4 + 1) fun v23 => gz_lt (x5 + 1) fun v24 => f12_moded_29 n x1 v11 v18 v23 v24 M20) else (gz_lt (x4 + 0) fun v25 => gz_lt (x5 + 1) fun v26 => f12_moded_29 n x1 v11 v18 v25 v26 M20)) else (gz_lt (x5 + 1) fun v27 => f12_moded_29 n x1 x2 x3 x4 v27 M8))
theorem b12_moded_29 {x : gz_X} {pf : Nat → Bool} {l : Launch} {r : Int32} {M' : gz_M} (X : gz_Ok x cX12_moded RX12 6 4 gz_cfR pf l) (hc : gx_cells x ≤ (gx_R x).cells ∧ gx_slots x ≤ (gx_R x).slots) (hE : gz_EI x cX12_moded .int r M') : ∀ (n : Nat) (x1 : Int32) (x2 : Int32) (x3 : Int32) (x4 : Int32) (x5 : Int32) (M0 : gz_M), f12_moded_29 n x1 x2 x3 x4 x5 M0 = some (r, M') → gz_At x 29 [(0, .ref (gx_ad x 0)), (1, .int x1), (2, .int x2), (3, .int x3), (4, .int x4), (5, .int x5)] [] M0 := by
  intro n
  induction n with
  | zero =>
    intro x1 x2 x3 x4 x5 M0  hf
    rw [f12_moded_29] at hf
    cases hf
  | succ n ih =>
    intro x1 x2 x3 x4 x5 M0  hf
    rw [f12_moded_29] at hf
    refine gr_iload X dX12_moded_29 5 rfl ?_
    refine gr_aload_n X dX12_moded_31 0 rfl rfl ?_
    refine gf12_31 X wf_RX12_238 dX12_moded_32 ?_
    refine gr_icmp_ge 100 X dX12_moded_35 (by decide) (fun h1 => ?_) (fun h1 => ?_)
    · rw [if_pos h1] at hf
      refine gr_aload_n X dX12_moded_100 0 rfl rfl ?_
      refine gr_iconst 0 X dX12_moded_101 (by decide) ?_
      obtain ⟨M2, eM2, hf⟩ := gz_lte hf
      refine gp12_4 X wf_RX12_127 eM2 dX12_moded_102 ?_
      refine gr_aload_n X dX12_moded_105 0 rfl rfl ?_
      refine gr_iload_n X dX12_moded_106 3 rfl rfl ?_
      refine gr_i2l X dX12_moded_107 ?_
      obtain ⟨M3, q4, hf⟩ := gz_bde hf
      refine gr_callV (asF := fun ad => [.ref (ad 0), .long (x3.toInt64)]) [.long (x3.toInt64)] X (c12_tell q4) rfl wm_RX12_280 rfl (X.kd gk_R0).1 ((X.kd gk_R0).2 _ _ _ _) rfl (by decide) (by decide) rfl (Nat.le_of_ble_eq_true rfl) hc dX12_moded_108 ?_
      refine gr_aload_n X dX12_moded_111 0 rfl rfl ?_
      refine gr_iload X dX12_moded_112 4 rfl ?_
      refine gr_i2l X dX12_moded_114 ?_
      obtain ⟨M5, q6, hf⟩ := gz_bde hf
      refine gr_callV (asF := fun ad => [.ref (ad 0), .long (x4.toInt64)]) [.long (x4.toInt64)] X (c12_tell q6) rfl wm_RX12_280 rfl (X.kd gk_R0).1 ((X.kd gk_R0).2 _ _ _ _) rfl (by decide) (by decide) rfl (Nat.le_of_ble_eq_true rfl) hc dX12_moded_115 ?_
      refine gr_iload_n X dX12_moded_118 2 rfl rfl ?_
      exact gz_EIu hE hf rfl dX12_moded_119
    · rw [if_neg h1] at hf
      refine gr_aload_n X dX12_moded_38 0 rfl rfl ?_
      refine gr_iload X dX12_moded_39 5 rfl ?_
      refine gr_iconst 4 X dX12_moded_41 (by decide) ?_
      obtain ⟨v7, M8, q9, hf⟩ := gz_bd2e hf
      refine gr_callI (asF := fun ad => [.ref (ad 0), .int x5, .int 4]) [.int x5, .int 4] X (c12_of q9) rfl wm_RX12_277 rfl (X.kd gk_R0).1 ((X.kd gk_R0).2 _ _ _ _) rfl (by decide) (by decide) rfl (Nat.le_of_ble_eq_true rfl) hc dX12_moded_42 ?_
      refine gr_iload_n X dX12_moded_45 1 rfl rfl ?_
      refine gr_icmp_eq 52 X dX12_moded_46 (by decide) (fun h10 => ?_) (fun h10 => ?_)
      · rw [if_pos h10] at hf
        obtain ⟨v11, ev11, hf⟩ := gz_lte hf
        refine gr_iinc 1 [(2, .int v11), (0, .ref (gx_ad x 0)), (1, .int x1), (3, .int x3), (4, .int x4), (5, .int x5)] X dX12_moded_52 2 rfl (by decide) ev11 (by decide) rfl ?_
        refine gr_iload_n X dX12_moded_55 3 rfl rfl ?_
        refine gr_aload_n X dX12_moded_56 1 rfl rfl ?_
        refine gr_iload X dX12_moded_57 5 rfl ?_
        refine gr_iconst 2 X dX12_moded_59 (by decide) ?_
        obtain ⟨v12, M13, q14, hf⟩ := gz_bd2e hf
        refine gr_callI (asF := fun ad => [.ref (ad 0), .int x5, .int 2]) [.int x5, .int 2] X (c12_of q14) rfl wm_RX12_277 rfl (X.kd gk_R0).1 ((X.kd gk_R0).2 _ _ _ _) rfl (by decide) (by decide) rfl (Nat.le_of_ble_eq_true rfl) hc dX12_moded_60 ?_
        refine gr_aload_n X dX12_moded_63 1 rfl rfl ?_
        refine gr_iload X dX12_moded_64 5 rfl ?_
        refine gr_iconst 1 X dX12_moded_66 (by decide) ?_
        obtain ⟨v15, M16, q17, hf⟩ := gz_bd2e hf
        refine gr_callI (asF := fun ad => [.ref (ad 0), .int x5, .int 1]) [.int x5, .int 1] X (c12_of q17) rfl wm_RX12_277 rfl (X.kd gk_R0).1 ((X.kd gk_R0).2 _ _ _ _) rfl (by decide) (by decide) rfl (Nat.le_of_ble_eq_true rfl) hc dX12_moded_67 ?_
        refine gr_isub X dX12_moded_70 ?_
        refine gr_iadd X dX12_moded_71 ?_
        obtain ⟨v18, ev18, hf⟩ := gz_lte hf
        refine gr_istore_n [(3, .int v18), (2, .int v11), (0, .ref (gx_ad x 0)), (1, .int x1), (4, .int x4), (5, .int x5)] X dX12_moded_72 ev18 rfl (by decide) rfl ?_
        refine gr_iload X dX12_moded_73 4 rfl ?_
        refine gr_aload_n X dX12_moded_75 2 rfl rfl ?_
        refine gr_iload X dX12_moded_76 5 rfl ?_
        refine gr_iconst 0 X dX12_moded_78 (by decide) ?_
        obtain ⟨v19, M20, q21, hf⟩ := gz_bd2e hf
        refine gr_callI (asF := fun ad => [.ref (ad 0), .int x5, .int 0]) [.int x5, .int 0] X (c12_of q21) rfl wm_RX12_277 rfl (X.kd gk_R0).1 ((X.kd gk_R0).2 _ _ _ _) rfl (by decide) (by decide) rfl (Nat.le_of_ble_eq_true rfl) hc dX12_moded_79 ?_
        refine gr_iconst (-1) X dX12_moded_82 (by decide) ?_
        refine gr_icmp_ne 90 X dX12_moded_83 (by decide) (fun h22 => ?_) (fun h22 => ?_)
        · rw [if_pos h22] at hf
          refine gr_iconst 1 X dX12_moded_86 (by decide) ?_
          refine gr_goto 91 X dX12_moded_87 (by decide) ?_
          refine gr_iadd X dX12_moded_91 ?_
          obtain ⟨v23, ev23, hf⟩ := gz_lte hf
          refine gr_istore [(4, .int v23), (3, .int v18), (2, .int v11), (0, .ref (gx_ad x 0)), (1, .int x1), (5, .int x5)] X dX12_moded_92 ev23 (by decide) rfl ?_
          obtain ⟨v24, ev24, hf⟩ := gz_lte hf
          refine gr_iinc 1 [(5, .int v24), (4, .int v23), (3, .int v18), (2, .int v11), (0, .ref (gx_ad x 0)), (1, .int x1)] X dX12_moded_94 5 rfl (by decide) ev24 (by decide) rfl ?_
          refine gr_goto 29 X dX12_moded_97 (by decide) ?_
          refine gr_sub (lv' := [(0, .ref (gx_ad x 0)), (1, .int x1), (2, .int v11), (3, .int v18), (4, .int v23), (5, .int v24)]) [4, 5, 3, 2, 1, 0] rfl ?_
          exact ih _ _ _ _ _ _ hf
        · rw [if_neg h22] at hf
          refine gr_iconst 0 X dX12_moded_90 (by decide) ?_
          refine gr_iadd X dX12_moded_91 ?_
          obtain ⟨v25, ev25, hf⟩ := gz_lte hf
          refine gr_istore [(4, .int v25), (3, .int v18), (2, .int v11), (0, .ref (gx_ad x 0)), (1, .int x1), (5, .int x5)] X dX12_moded_92 ev25 (by decide) rfl ?_
          obtain ⟨v26, ev26, hf⟩ := gz_lte hf
          refine gr_iinc 1 [(5, .int v26), (4, .int v25), (3, .int v18), (2, .int v11), (0, .ref (gx_ad x 0)), (1, .int x1)] X dX12_moded_94 5 rfl (by decide) ev26 (by decide) rfl ?_
          refine gr_goto 29 X dX12_moded_97 (by decide) ?_
          refine gr_sub (lv' := [(0, .ref (gx_ad x 0)), (1, .int x1), (2, .int v11), (3, .int v18), (4, .int v25), (5, .int v26)]) [4, 5, 3, 2, 1, 0] rfl ?_
          exact ih _ _ _ _ _ _ hf
      · rw [if_neg h10] at hf
        refine gr_goto 94 X dX12_moded_49 (by decide) ?_
        obtain ⟨v27, ev27, hf⟩ := gz_lte hf
        refine gr_iinc 1 [(5, .int v27), (0, .ref (gx_ad x 0)), (1, .int x1), (2, .int x2), (3, .int x3), (4, .int x4)] X dX12_moded_94 5 rfl (by decide) ev27 (by decide) rfl ?_
        refine gr_goto 29 X dX12_moded_97 (by decide) ?_
        refine gr_sub (lv' := [(0, .ref (gx_ad x 0)), (1, .int x1), (2, .int x2), (3, .int x3), (4, .int x4), (5, .int v27)]) [1, 2, 3, 4, 5, 0] rfl ?_
        exact ih _ _ _ _ _ _ hf

def f12_moded (a0 : Int32) (M0 : gz_M) : Option (Int32 × gz_M) := gz_lt (gz_w M0 0 5 0) fun M1 => gz_bd2 (f12_isMode a0 M1) fun v2 M3 => if v2 = 0 then (some ((-1), M3)) else (gz_bd (f12_cutAll 0 M3) fun M6 => f12_moded_29 gz_FU a0 0 0 0 0 M6)
set_option maxRecDepth 100000 in
theorem c12_moded {pf : Nat → Bool} {l : Launch} {r : Int32} {M0 M' : gz_M} {a0 : Int32} (hf : f12_moded a0 M0 = some (r, M')) : gz_CI l gz_cfR yX12_moded cX12_moded 6 4 .int (fun ad => [.ref (ad 0), .int a0]) pf M0 r M' := by
  refine gz_ofI (by decide +kernel) (fun _ => Nat.le_of_ble_eq_true rfl) (fun x X hc hE => ?_)
  show gz_At x 0 [(0, .ref (gx_ad x 0)), (1, .int a0)] [] M0
  unfold f12_moded at hf
  refine gr_aload_n X dX12_moded_0 0 rfl rfl ?_
  refine gr_iconst 0 X dX12_moded_1 (by decide) ?_
  obtain ⟨M1, eM1, hf⟩ := gz_lte hf
  refine gp12_5 X wf_RX12_123 eM1 dX12_moded_2 ?_
  refine gr_iload_n X dX12_moded_5 1 rfl rfl ?_
  obtain ⟨v2, M3, q4, hf⟩ := gz_bd2e hf
  refine gr_callSI (asF := fun _ => [.int a0]) [.int a0] X (c12_isMode q4) rfl wm_RX12_293 rfl (by decide) (by decide) rfl (Nat.le_of_ble_eq_true rfl) hc dX12_moded_6 ?_
  refine gr_if_ne 14 X dX12_moded_9 (by decide) (fun h5 => ?_) (fun h5 => ?_)
  · rw [if_pos h5] at hf
    refine gr_iconst (-1) X dX12_moded_12 (by decide) ?_
    exact gz_EIu hE hf rfl dX12_moded_13
  · rw [if_neg h5] at hf
    refine gr_aload_n X dX12_moded_14 0 rfl rfl ?_
    refine gr_iconst 0 X dX12_moded_15 (by decide) ?_
    obtain ⟨M6, q7, hf⟩ := gz_bde hf
    refine gr_callV (asF := fun ad => [.ref (ad 0), .int 0]) [.int 0] X (c12_cutAll q7) rfl wm_RX12_274 rfl (X.kd gk_R0).1 ((X.kd gk_R0).2 _ _ _ _) rfl (by decide) (by decide) rfl (Nat.le_of_ble_eq_true rfl) hc dX12_moded_16 ?_
    refine gr_iconst 0 X dX12_moded_19 (by decide) ?_
    refine gr_istore_n [(2, .int 0), (0, .ref (gx_ad x 0)), (1, .int a0)] X dX12_moded_20 rfl rfl (by decide) rfl ?_
    refine gr_iconst 0 X dX12_moded_21 (by decide) ?_
    refine gr_istore_n [(3, .int 0), (2, .int 0), (0, .ref (gx_ad x 0)), (1, .int a0)] X dX12_moded_22 rfl rfl (by decide) rfl ?_
    refine gr_iconst 0 X dX12_moded_23 (by decide) ?_
    refine gr_istore [(4, .int 0), (3, .int 0), (2, .int 0), (0, .ref (gx_ad x 0)), (1, .int a0)] X dX12_moded_24 rfl (by decide) rfl ?_
    refine gr_iconst 0 X dX12_moded_26 (by decide) ?_
    refine gr_istore [(5, .int 0), (4, .int 0), (3, .int 0), (2, .int 0), (0, .ref (gx_ad x 0)), (1, .int a0)] X dX12_moded_27 rfl (by decide) rfl ?_
    refine gr_sub (lv' := [(0, .ref (gx_ad x 0)), (1, .int a0), (2, .int 0), (3, .int 0), (4, .int 0), (5, .int 0)]) [4, 5, 3, 2, 1, 0] rfl ?_
    exact b12_moded_29 X hc hE _ _ _ _ _ _ _ hf

def f12_readers_94 (c39 : Int32 → Int32 → Int32 → Int32 → Int32 → gz_M → Option (Int32 × gz_M)) (x1 : Int32) (x2 : Int32) (x4 : Int32) (x5 : Int32) (s0 : Int32) (M0 : gz_M) : Option (Int32 × gz_M) := gz_lt (x2 + 1) fun v1 => gz_bd2 (f12_of x5 2 M0) fun v2 M3 => if v2 ≤ x1 then (gz_lt (x4 + 0) fun v6 => gz_lt (x5 + 1) fun v7 => c39 x1 v1 s0 v6 v7 M3) else (gz_lt (x4 + 1) fun v8 => gz_lt (x5 + 1) fun v9 => c39 x1 v1 s0 v8 v9 M3)
theorem b12_readers_94 {x : gz_X} {pf : Nat → Bool} {l : Launch} {r : Int32} {M' : gz_M} (X : gz_Ok x cX12_readers RX12 6 4 gz_cfR pf l) (hc : gx_cells x ≤ (gx_R x).cells ∧ gx_slots x ≤ (gx_R x).slots) (hE : gz_EI x cX12_readers .int r M') {c39 : Int32 → Int32 → Int32 → Int32 → Int32 → gz_M → Option (Int32 × gz_M)} (hc39 : ∀ (x1 : Int32) (x2 : Int32) (x3 : Int32) (x4 : Int32) (x5 : Int32) (M0 : gz_M), c39 x1 x2 x3 x4 x5 M0 = some (r, M') → gz_At x 39 [(0, .ref (gx_ad x 0)), (1, .int x1), (2, .int x2), (3, .int x3), (4, .int x4), (5, .int x5)] [] M0) : ∀ (x1 : Int32) (x2 : Int32) (x4 : Int32) (x5 : Int32) (s0 : Int32) (M0 : gz_M), f12_readers_94 c39 x1 x2 x4 x5 s0 M0 = some (r, M') → gz_At x 94 [(0, .ref (gx_ad x 0)), (1, .int x1), (2, .int x2), (4, .int x4), (5, .int x5)] [.int s0] M0 := by
  intro x1 x2 x4 x5 s0 M0  hf
  rw [f12_readers_94] at hf
  refine gr_istore_n [(3, .int s0), (0, .ref (gx_ad x 0)), (1, .int x1), (2, .int x2), (4, .int x4), (5, .int x5)] X dX12_readers_94 rfl rfl (by decide) rfl ?_
  obtain ⟨v1, ev1, hf⟩ := gz_lte hf
  refine gr_iinc 1 [(2, .int v1), (3, .int s0), (0, .ref (gx_ad x 0)), (1, .int x1), (4, .int x4), (5, .int x5)] X dX12_readers_95 3 rfl (by decide) ev1 (by decide) rfl ?_
  refine gr_iload X dX12_readers_98 4 rfl ?_
  refine gr_iload_n X dX12_readers_100 3 rfl rfl ?_
  refine gr_aload_n X dX12_readers_101 2 rfl rfl ?_
  refine gr_iload X dX12_readers_102 5 rfl ?_
  refine gr_iconst 2 X dX12_readers_104 (by decide) ?_
  obtain ⟨v2, M3, q4, hf⟩ := gz_bd2e hf
  refine gr_callI (asF := fun ad => [.ref (ad 0), .int x5, .int 2]) [.int x5, .int 2] X (c12_of q4) rfl wm_RX12_277 rfl (X.kd gk_R0).1 ((X.kd gk_R0).2 _ _ _ _) rfl (by decide) (by decide) rfl (Nat.le_of_ble_eq_true rfl) hc dX12_readers_105 ?_
  refine gr_icmp_ge 115 X dX12_readers_108 (by decide) (fun h5 => ?_) (fun h5 => ?_)
  · rw [if_pos h5] at hf
    refine gr_iconst 0 X dX12_readers_115 (by decide) ?_
    refine gr_iadd X dX12_readers_116 ?_
    obtain ⟨v6, ev6, hf⟩ := gz_lte hf
    refine gr_istore [(4, .int v6), (2, .int v1), (3, .int s0), (0, .ref (gx_ad x 0)), (1, .int x1), (5, .int x5)] X dX12_readers_117 ev6 (by decide) rfl ?_
    obtain ⟨v7, ev7, hf⟩ := gz_lte hf
    refine gr_iinc 1 [(5, .int v7), (4, .int v6), (2, .int v1), (3, .int s0), (0, .ref (gx_ad x 0)), (1, .int x1)] X dX12_readers_119 5 rfl (by decide) ev7 (by decide) rfl ?_
    refine gr_goto 39 X dX12_readers_122 (by decide) ?_
    refine gr_sub (lv' := [(0, .ref (gx_ad x 0)), (1, .int x1), (2, .int v1), (3, .int s0), (4, .int v6), (5, .int v7)]) [4, 5, 2, 3, 1, 0] rfl ?_
    exact hc39 _ _ _ _ _ _ hf
  · rw [if_neg h5] at hf
    refine gr_iconst 1 X dX12_readers_111 (by decide) ?_
    refine gr_goto 116 X dX12_readers_112 (by decide) ?_
    refine gr_iadd X dX12_readers_116 ?_
    obtain ⟨v8, ev8, hf⟩ := gz_lte hf
    refine gr_istore [(4, .int v8), (2, .int v1), (3, .int s0), (0, .ref (gx_ad x 0)), (1, .int x1), (5, .int x5)] X dX12_readers_117 ev8 (by decide) rfl ?_
    obtain ⟨v9, ev9, hf⟩ := gz_lte hf
    refine gr_iinc 1 [(5, .int v9), (4, .int v8), (2, .int v1), (3, .int s0), (0, .ref (gx_ad x 0)), (1, .int x1)] X dX12_readers_119 5 rfl (by decide) ev9 (by decide) rfl ?_
    refine gr_goto 39 X dX12_readers_122 (by decide) ?_
    refine gr_sub (lv' := [(0, .ref (gx_ad x 0)), (1, .int x1), (2, .int v1), (3, .int s0), (4, .int v8), (5, .int v9)]) [4, 5, 2, 3, 1, 0] rfl ?_
    exact hc39 _ _ _ _ _ _ hf

def f12_readers_39 : Nat → Int32 → Int32 → Int32 → Int32 → Int32 → gz_M → Option (Int32 × gz_M)
  | 0, _, _, _, _, _, _ => none
  | n + 1, x1, x2, x3, x4, x5, M0 => if (M0.1 0 31) ≤ x5 then (gz_lt (gz_w M0 0 4 0) fun M2 => gz_bd (f12_tell (x3.toInt64) M2) fun M3 => gz_bd (f12_tell (x4.toInt64) M3) fun M5 => some (x2, M5)) else (gz_bd2 (f12_of x5 1 M0) fun v7 M8 => if x1 < v7 then (gz_lt (x5 + 1) fun v11 => f12_readers_39 n x1 x2 x3 x4 v11 M8) else (gz_bd2 (f12_of x5 3 M8) fun v12 M13 => gz_ck (gz_inb 81 106) <| if x1 < (gz_min v12 (M13.1 1 (81 : Int32).toNatClampNeg)) then (if x3 = (-1) then (f12_readers_94 (f12_readers_39 n) x1 x2 x4 x5 x5 M13) else (f12_readers_94 (f12_readers_39 n) x1 x2 x4 x5 x3 M13)) else (gz_lt (x5 + 1) fun v18 => f12_readers_39 n x1 x2 x3 x4 v18 M13)))
theorem b12_readers_39 {x : gz_X} {pf : Nat → Bool} {l : Launch} {r : Int32} {M' : gz_M} (X : gz_Ok x cX12_readers RX12 6 4 gz_cfR pf l) (hc : gx_cells x ≤ (gx_R x).cells ∧ gx_slots x ≤ (gx_R x).slots) (hE : gz_EI x cX12_readers .int r M') : ∀ (n : Nat) (x1 : Int32) (x2 : Int32) (x3 : Int32) (x4 : Int32) (x5 : Int32) (M0 : gz_M), f12_readers_39 n x1 x2 x3 x4 x5 M0 = some (r, M') → gz_At x 39 [(0, .ref (gx_ad x 0)), (1, .int x1), (2, .int x2), (3, .int x3), (4, .int x4), (5, .int x5)] [] M0 := by
  intro n
  induction n with
  | zero =>
    intro x1 x2 x3 x4 x5 M0  hf
    rw [f12_readers_39] at hf
    cases hf
  | succ n ih =>
    intro x1 x2 x3 x4 x5 M0  hf
    rw [f12_readers_39] at hf
    refine gr_iload X dX12_readers_39 5 rfl ?_
    refine gr_aload_n X dX12_readers_41 0 rfl rfl ?_
    refine gf12_31 X wf_RX12_238 dX12_readers_42 ?_
    refine gr_icmp_ge 125 X dX12_readers_45 (by decide) (fun h1 => ?_) (fun h1 => ?_)
    · rw [if_pos h1] at hf
      refine gr_aload_n X dX12_readers_125 0 rfl rfl ?_
      refine gr_iconst 0 X dX12_readers_126 (by decide) ?_
      obtain ⟨M2, eM2, hf⟩ := gz_lte hf
      refine gp12_4 X wf_RX12_127 eM2 dX12_readers_127 ?_
      refine gr_aload_n X dX12_readers_130 0 rfl rfl ?_
      refine gr_iload_n X dX12_readers_131 3 rfl rfl ?_
      refine gr_i2l X dX12_readers_132 ?_
      obtain ⟨M3, q4, hf⟩ := gz_bde hf
      refine gr_callV (asF := fun ad => [.ref (ad 0), .long (x3.toInt64)]) [.long (x3.toInt64)] X (c12_tell q4) rfl wm_RX12_280 rfl (X.kd gk_R0).1 ((X.kd gk_R0).2 _ _ _ _) rfl (by decide) (by decide) rfl (Nat.le_of_ble_eq_true rfl) hc dX12_readers_133 ?_
      refine gr_aload_n X dX12_readers_136 0 rfl rfl ?_
      refine gr_iload X dX12_readers_137 4 rfl ?_
      refine gr_i2l X dX12_readers_139 ?_
      obtain ⟨M5, q6, hf⟩ := gz_bde hf
      refine gr_callV (asF := fun ad => [.ref (ad 0), .long (x4.toInt64)]) [.long (x4.toInt64)] X (c12_tell q6) rfl wm_RX12_280 rfl (X.kd gk_R0).1 ((X.kd gk_R0).2 _ _ _ _) rfl (by decide) (by decide) rfl (Nat.le_of_ble_eq_true rfl) hc dX12_readers_140 ?_
      refine gr_iload_n X dX12_readers_143 2 rfl rfl ?_
      exact gz_EIu hE hf rfl dX12_readers_144
    · rw [if_neg h1] at hf
      refine gr_iload_n X dX12_readers_48 1 rfl rfl ?_
      refine gr_aload_n X dX12_readers_49 0 rfl rfl ?_
      refine gr_iload X dX12_readers_50 5 rfl ?_
      refine gr_iconst 1 X dX12_readers_52 (by decide) ?_
      obtain ⟨v7, M8, q9, hf⟩ := gz_bd2e hf
      refine gr_callI (asF := fun ad => [.ref (ad 0), .int x5, .int 1]) [.int x5, .int 1] X (c12_of q9) rfl wm_RX12_277 rfl (X.kd gk_R0).1 ((X.kd gk_R0).2 _ _ _ _) rfl (by decide) (by decide) rfl (Nat.le_of_ble_eq_true rfl) hc dX12_readers_53 ?_
      refine gr_icmp_lt 119 X dX12_readers_56 (by decide) (fun h10 => ?_) (fun h10 => ?_)
      · rw [if_pos h10] at hf
        obtain ⟨v11, ev11, hf⟩ := gz_lte hf
        refine gr_iinc 1 [(5, .int v11), (0, .ref (gx_ad x 0)), (1, .int x1), (2, .int x2), (3, .int x3), (4, .int x4)] X dX12_readers_119 5 rfl (by decide) ev11 (by decide) rfl ?_
        refine gr_goto 39 X dX12_readers_122 (by decide) ?_
        refine gr_sub (lv' := [(0, .ref (gx_ad x 0)), (1, .int x1), (2, .int x2), (3, .int x3), (4, .int x4), (5, .int v11)]) [1, 2, 3, 4, 5, 0] rfl ?_
        exact ih _ _ _ _ _ _ hf
      · rw [if_neg h10] at hf
        refine gr_iload_n X dX12_readers_59 1 rfl rfl ?_
        refine gr_aload_n X dX12_readers_60 0 rfl rfl ?_
        refine gr_iload X dX12_readers_61 5 rfl ?_
        refine gr_iconst 3 X dX12_readers_63 (by decide) ?_
        obtain ⟨v12, M13, q14, hf⟩ := gz_bd2e hf
        refine gr_callI (asF := fun ad => [.ref (ad 0), .int x5, .int 3]) [.int x5, .int 3] X (c12_of q14) rfl wm_RX12_277 rfl (X.kd gk_R0).1 ((X.kd gk_R0).2 _ _ _ _) rfl (by decide) (by decide) rfl (Nat.le_of_ble_eq_true rfl) hc dX12_readers_64 ?_
        refine gr_aload_n X dX12_readers_67 0 rfl rfl ?_
        refine gf12_0 X wf_RX12_9 dX12_readers_68 ?_
        refine gr_bipush 81 X dX12_readers_71 (by decide) ?_
        obtain ⟨h15, hf⟩ := gz_cke hf
        refine gr_iaload X gk_R1 (gz_inp h15) dX12_readers_73 ?_
        refine gr_mmin X (by decide) wl_RX12_297 hc (Nat.le_of_ble_eq_true rfl) dX12_readers_74 ?_
        refine gr_icmp_lt 83 X dX12_readers_77 (by decide) (fun h16 => ?_) (fun h16 => ?_)
        · rw [if_pos h16] at hf
          refine gr_iload_n X dX12_readers_83 3 rfl rfl ?_
          refine gr_iconst (-1) X dX12_readers_84 (by decide) ?_
          refine gr_icmp_ne 93 X dX12_readers_85 (by decide) (fun h17 => ?_) (fun h17 => ?_)
          · rw [if_pos h17] at hf
            refine gr_iload X dX12_readers_88 5 rfl ?_
            refine gr_goto 94 X dX12_readers_90 (by decide) ?_
            refine gr_sub (lv' := [(0, .ref (gx_ad x 0)), (1, .int x1), (2, .int x2), (4, .int x4), (5, .int x5)]) [0, 1, 2, 4, 5] rfl ?_
            exact b12_readers_94 X hc hE ih _ _ _ _ _ _ hf
          · rw [if_neg h17] at hf
            refine gr_iload_n X dX12_readers_93 3 rfl rfl ?_
            refine gr_sub (lv' := [(0, .ref (gx_ad x 0)), (1, .int x1), (2, .int x2), (4, .int x4), (5, .int x5)]) [0, 1, 2, 4, 5] rfl ?_
            exact b12_readers_94 X hc hE ih _ _ _ _ _ _ hf
        · rw [if_neg h16] at hf
          refine gr_goto 119 X dX12_readers_80 (by decide) ?_
          obtain ⟨v18, ev18, hf⟩ := gz_lte hf
          refine gr_iinc 1 [(5, .int v18), (0, .ref (gx_ad x 0)), (1, .int x1), (2, .int x2), (3, .int x3), (4, .int x4)] X dX12_readers_119 5 rfl (by decide) ev18 (by decide) rfl ?_
          refine gr_goto 39 X dX12_readers_122 (by decide) ?_
          refine gr_sub (lv' := [(0, .ref (gx_ad x 0)), (1, .int x1), (2, .int x2), (3, .int x3), (4, .int x4), (5, .int v18)]) [1, 2, 3, 4, 5, 0] rfl ?_
          exact ih _ _ _ _ _ _ hf

def f12_readers (a0 : Int32) (M0 : gz_M) : Option (Int32 × gz_M) := gz_lt (gz_w M0 0 5 0) fun M1 => gz_ck (gz_inb 81 106) <| gz_bd2 (f12_in a0 0 ((M1.1 1 (81 : Int32).toNatClampNeg) - 1) M1) fun v3 M4 => if v3 = 0 then (some ((-1), M4)) else (gz_bd (f12_cutAll 0 M4) fun M7 => f12_readers_39 gz_FU a0 0 (-1) 0 0 M7)
set_option maxRecDepth 100000 in
theorem c12_readers {pf : Nat → Bool} {l : Launch} {r : Int32} {M0 M' : gz_M} {a0 : Int32} (hf : f12_readers a0 M0 = some (r, M')) : gz_CI l gz_cfR yX12_readers cX12_readers 6 4 .int (fun ad => [.ref (ad 0), .int a0]) pf M0 r M' := by
  refine gz_ofI (by decide +kernel) (fun _ => Nat.le_of_ble_eq_true rfl) (fun x X hc hE => ?_)
  show gz_At x 0 [(0, .ref (gx_ad x 0)), (1, .int a0)] [] M0
  unfold f12_readers at hf
  refine gr_aload_n X dX12_readers_0 0 rfl rfl ?_
  refine gr_iconst 0 X dX12_readers_1 (by decide) ?_
  obtain ⟨M1, eM1, hf⟩ := gz_lte hf
  refine gp12_5 X wf_RX12_123 eM1 dX12_readers_2 ?_
  refine gr_iload_n X dX12_readers_5 1 rfl rfl ?_
  refine gr_iconst 0 X dX12_readers_6 (by decide) ?_
  refine gr_aload_n X dX12_readers_7 0 rfl rfl ?_
  refine gf12_0 X wf_RX12_9 dX12_readers_8 ?_
  refine gr_bipush 81 X dX12_readers_11 (by decide) ?_
  obtain ⟨h2, hf⟩ := gz_cke hf
  refine gr_iaload X gk_R1 (gz_inp h2) dX12_readers_13 ?_
  refine gr_iconst 1 X dX12_readers_14 (by decide) ?_
  refine gr_isub X dX12_readers_15 ?_
  obtain ⟨v3, M4, q5, hf⟩ := gz_bd2e hf
  refine gr_callSI (asF := fun _ => [.int a0, .int 0, .int ((M1.1 1 (81 : Int32).toNatClampNeg) - 1)]) [.int a0, .int 0, .int ((M1.1 1 (81 : Int32).toNatClampNeg) - 1)] X (c12_in q5) rfl wm_RX12_133 rfl (by decide) (by decide) rfl (Nat.le_of_ble_eq_true rfl) hc dX12_readers_16 ?_
  refine gr_if_ne 24 X dX12_readers_19 (by decide) (fun h6 => ?_) (fun h6 => ?_)
  · rw [if_pos h6] at hf
    refine gr_iconst (-1) X dX12_readers_22 (by decide) ?_
    exact gz_EIu hE hf rfl dX12_readers_23
  · rw [if_neg h6] at hf
    refine gr_aload_n X dX12_readers_24 0 rfl rfl ?_
    refine gr_iconst 0 X dX12_readers_25 (by decide) ?_
    obtain ⟨M7, q8, hf⟩ := gz_bde hf
    refine gr_callV (asF := fun ad => [.ref (ad 0), .int 0]) [.int 0] X (c12_cutAll q8) rfl wm_RX12_274 rfl (X.kd gk_R0).1 ((X.kd gk_R0).2 _ _ _ _) rfl (by decide) (by decide) rfl (Nat.le_of_ble_eq_true rfl) hc dX12_readers_26 ?_
    refine gr_iconst 0 X dX12_readers_29 (by decide) ?_
    refine gr_istore_n [(2, .int 0), (0, .ref (gx_ad x 0)), (1, .int a0)] X dX12_readers_30 rfl rfl (by decide) rfl ?_
    refine gr_iconst (-1) X dX12_readers_31 (by decide) ?_
    refine gr_istore_n [(3, .int (-1)), (2, .int 0), (0, .ref (gx_ad x 0)), (1, .int a0)] X dX12_readers_32 rfl rfl (by decide) rfl ?_
    refine gr_iconst 0 X dX12_readers_33 (by decide) ?_
    refine gr_istore [(4, .int 0), (3, .int (-1)), (2, .int 0), (0, .ref (gx_ad x 0)), (1, .int a0)] X dX12_readers_34 rfl (by decide) rfl ?_
    refine gr_iconst 0 X dX12_readers_36 (by decide) ?_
    refine gr_istore [(5, .int 0), (4, .int 0), (3, .int (-1)), (2, .int 0), (0, .ref (gx_ad x 0)), (1, .int a0)] X dX12_readers_37 rfl (by decide) rfl ?_
    refine gr_sub (lv' := [(0, .ref (gx_ad x 0)), (1, .int a0), (2, .int 0), (3, .int (-1)), (4, .int 0), (5, .int 0)]) [4, 5, 3, 2, 1, 0] rfl ?_
    exact b12_readers_39 X hc hE _ _ _ _ _ _ _ hf

def f12_readWithMemory (M0 : gz_M) : Option (Int32 × gz_M) := gz_bd (f12_cutAll 1 M0) fun M1 => some (M1.1 0 32, M1)
set_option maxRecDepth 100000 in
theorem c12_readWithMemory {pf : Nat → Bool} {l : Launch} {r : Int32} {M0 M' : gz_M} (hf : f12_readWithMemory M0 = some (r, M')) : gz_CI l gz_cfR yX12_readWithMemory cX12_readWithMemory 1 4 .int (fun ad => [.ref (ad 0)]) pf M0 r M' := by
  refine gz_ofI (by decide +kernel) (fun _ => Nat.le_of_ble_eq_true rfl) (fun x X hc hE => ?_)
  show gz_At x 0 [(0, .ref (gx_ad x 0))] [] M0
  unfold f12_readWithMemory at hf
  refine gr_aload_n X dX12_readWithMemory_0 0 rfl rfl ?_
  refine gr_iconst 1 X dX12_readWithMemory_1 (by decide) ?_
  obtain ⟨M1, q2, hf⟩ := gz_bde hf
  refine gr_callV (asF := fun ad => [.ref (ad 0), .int 1]) [.int 1] X (c12_cutAll q2) rfl wm_RX12_274 rfl (X.kd gk_R0).1 ((X.kd gk_R0).2 _ _ _ _) rfl (by decide) (by decide) rfl (Nat.le_of_ble_eq_true rfl) hc dX12_readWithMemory_2 ?_
  refine gr_aload_n X dX12_readWithMemory_5 0 rfl rfl ?_
  refine gf12_32 X wf_RX12_241 dX12_readWithMemory_6 ?_
  exact gz_EIu hE hf rfl dX12_readWithMemory_9

def f12_read_14 : Nat → Int32 → Int32 → Int32 → gz_M → Option (Int32 × gz_M)
  | 0, _, _, _, _ => none
  | n + 1, x1, x2, x3, M0 => if 102400 ≤ x3 then (gz_bd (f12_cutAll 0 M0) fun M2 => gz_lt (gz_w M2 0 4 0) fun M4 => gz_bd (f12_tell (x1.toInt64) M4) fun M5 => gz_bd (f12_tell (x2.toInt64) M5) fun M7 => some (M7.1 0 32, M7)) else (gz_ck (gz_inb x3 102400) <| if (M0.1 19 x3.toNatClampNeg) = 0 then (gz_lt (x2 + 0) fun v11 => gz_lt (x3 + 1) fun v12 => f12_read_14 n x1 v11 v12 M0) else (gz_lt (x2 + 1) fun v13 => gz_lt (x3 + 1) fun v14 => f12_read_14 n x1 v13 v14 M0))
theorem b12_read_14 {x : gz_X} {pf : Nat → Bool} {l : Launch} {r : Int32} {M' : gz_M} (X : gz_Ok x cX12_read RX12 4 5 gz_cfR pf l) (hc : gx_cells x ≤ (gx_R x).cells ∧ gx_slots x ≤ (gx_R x).slots) (hE : gz_EI x cX12_read .int r M') : ∀ (n : Nat) (x1 : Int32) (x2 : Int32) (x3 : Int32) (M0 : gz_M), f12_read_14 n x1 x2 x3 M0 = some (r, M') → gz_At x 14 [(0, .ref (gx_ad x 0)), (1, .int x1), (2, .int x2), (3, .int x3)] [] M0 := by
  intro n
  induction n with
  | zero =>
    intro x1 x2 x3 M0  hf
    rw [f12_read_14] at hf
    cases hf
  | succ n ih =>
    intro x1 x2 x3 M0  hf
    rw [f12_read_14] at hf
    refine gr_iload_n X dX12_read_14 3 rfl rfl ?_
    refine gr_ldc 102400 X dX12_read_15 wk_RX12_64 ?_
    refine gr_icmp_ge 43 X dX12_read_17 (by decide) (fun h1 => ?_) (fun h1 => ?_)
    · rw [if_pos h1] at hf
      refine gr_aload_n X dX12_read_43 0 rfl rfl ?_
      refine gr_iconst 0 X dX12_read_44 (by decide) ?_
      obtain ⟨M2, q3, hf⟩ := gz_bde hf
      refine gr_callV (asF := fun ad => [.ref (ad 0), .int 0]) [.int 0] X (c12_cutAll q3) rfl wm_RX12_274 rfl (X.kd gk_R0).1 ((X.kd gk_R0).2 _ _ _ _) rfl (by decide) (by decide) rfl (Nat.le_of_ble_eq_true rfl) hc dX12_read_45 ?_
      refine gr_aload_n X dX12_read_48 0 rfl rfl ?_
      refine gr_iconst 0 X dX12_read_49 (by decide) ?_
      obtain ⟨M4, eM4, hf⟩ := gz_lte hf
      refine gp12_4 X wf_RX12_127 eM4 dX12_read_50 ?_
      refine gr_aload_n X dX12_read_53 0 rfl rfl ?_
      refine gr_iload_n X dX12_read_54 1 rfl rfl ?_
      refine gr_i2l X dX12_read_55 ?_
      obtain ⟨M5, q6, hf⟩ := gz_bde hf
      refine gr_callV (asF := fun ad => [.ref (ad 0), .long (x1.toInt64)]) [.long (x1.toInt64)] X (c12_tell q6) rfl wm_RX12_280 rfl (X.kd gk_R0).1 ((X.kd gk_R0).2 _ _ _ _) rfl (by decide) (by decide) rfl (Nat.le_of_ble_eq_true rfl) hc dX12_read_56 ?_
      refine gr_aload_n X dX12_read_59 0 rfl rfl ?_
      refine gr_iload_n X dX12_read_60 2 rfl rfl ?_
      refine gr_i2l X dX12_read_61 ?_
      obtain ⟨M7, q8, hf⟩ := gz_bde hf
      refine gr_callV (asF := fun ad => [.ref (ad 0), .long (x2.toInt64)]) [.long (x2.toInt64)] X (c12_tell q8) rfl wm_RX12_280 rfl (X.kd gk_R0).1 ((X.kd gk_R0).2 _ _ _ _) rfl (by decide) (by decide) rfl (Nat.le_of_ble_eq_true rfl) hc dX12_read_62 ?_
      refine gr_aload_n X dX12_read_65 0 rfl rfl ?_
      refine gf12_32 X wf_RX12_241 dX12_read_66 ?_
      exact gz_EIu hE hf rfl dX12_read_69
    · rw [if_neg h1] at hf
      refine gr_iload_n X dX12_read_20 2 rfl rfl ?_
      refine gr_aload_n X dX12_read_21 0 rfl rfl ?_
      refine gf12_34 X wf_RX12_68 dX12_read_22 ?_
      refine gr_iload_n X dX12_read_25 3 rfl rfl ?_
      obtain ⟨h9, hf⟩ := gz_cke hf
      refine gr_zaload X gk_R19 (gz_inp h9) dX12_read_26 ?_
      refine gr_if_eq 34 X dX12_read_27 (by decide) (fun h10 => ?_) (fun h10 => ?_)
      · rw [if_pos h10] at hf
        refine gr_iconst 0 X dX12_read_34 (by decide) ?_
        refine gr_iadd X dX12_read_35 ?_
        obtain ⟨v11, ev11, hf⟩ := gz_lte hf
        refine gr_istore_n [(2, .int v11), (0, .ref (gx_ad x 0)), (1, .int x1), (3, .int x3)] X dX12_read_36 ev11 rfl (by decide) rfl ?_
        obtain ⟨v12, ev12, hf⟩ := gz_lte hf
        refine gr_iinc 1 [(3, .int v12), (2, .int v11), (0, .ref (gx_ad x 0)), (1, .int x1)] X dX12_read_37 3 rfl (by decide) ev12 (by decide) rfl ?_
        refine gr_goto 14 X dX12_read_40 (by decide) ?_
        refine gr_sub (lv' := [(0, .ref (gx_ad x 0)), (1, .int x1), (2, .int v11), (3, .int v12)]) [2, 3, 1, 0] rfl ?_
        exact ih _ _ _ _ hf
      · rw [if_neg h10] at hf
        refine gr_iconst 1 X dX12_read_30 (by decide) ?_
        refine gr_goto 35 X dX12_read_31 (by decide) ?_
        refine gr_iadd X dX12_read_35 ?_
        obtain ⟨v13, ev13, hf⟩ := gz_lte hf
        refine gr_istore_n [(2, .int v13), (0, .ref (gx_ad x 0)), (1, .int x1), (3, .int x3)] X dX12_read_36 ev13 rfl (by decide) rfl ?_
        obtain ⟨v14, ev14, hf⟩ := gz_lte hf
        refine gr_iinc 1 [(3, .int v14), (2, .int v13), (0, .ref (gx_ad x 0)), (1, .int x1)] X dX12_read_37 3 rfl (by decide) ev14 (by decide) rfl ?_
        refine gr_goto 14 X dX12_read_40 (by decide) ?_
        refine gr_sub (lv' := [(0, .ref (gx_ad x 0)), (1, .int x1), (2, .int v13), (3, .int v14)]) [2, 3, 1, 0] rfl ?_
        exact ih _ _ _ _ hf

def f12_read (M0 : gz_M) : Option (Int32 × gz_M) := gz_lt (gz_w M0 0 5 0) fun M1 => gz_bd2 (f12_readWithMemory M1) fun v2 M3 => f12_read_14 gz_FU v2 0 0 M3
set_option maxRecDepth 100000 in
theorem c12_read {pf : Nat → Bool} {l : Launch} {r : Int32} {M0 M' : gz_M} (hf : f12_read M0 = some (r, M')) : gz_CI l gz_cfR yX12_read cX12_read 4 5 .int (fun ad => [.ref (ad 0)]) pf M0 r M' := by
  refine gz_ofI (by decide +kernel) (fun _ => Nat.le_of_ble_eq_true rfl) (fun x X hc hE => ?_)
  show gz_At x 0 [(0, .ref (gx_ad x 0))] [] M0
  unfold f12_read at hf
  refine gr_aload_n X dX12_read_0 0 rfl rfl ?_
  refine gr_iconst 0 X dX12_read_1 (by decide) ?_
  obtain ⟨M1, eM1, hf⟩ := gz_lte hf
  refine gp12_5 X wf_RX12_123 eM1 dX12_read_2 ?_
  refine gr_aload_n X dX12_read_5 0 rfl rfl ?_
  obtain ⟨v2, M3, q4, hf⟩ := gz_bd2e hf
  refine gr_callI (asF := fun ad => [.ref (ad 0)]) [] X (c12_readWithMemory q4) rfl wm_RX12_300 rfl (X.kd gk_R0).1 ((X.kd gk_R0).2 _ _ _ _) rfl (by decide) (by decide) rfl (Nat.le_of_ble_eq_true rfl) hc dX12_read_6 ?_
  refine gr_istore_n [(1, .int v2), (0, .ref (gx_ad x 0))] X dX12_read_9 rfl rfl (by decide) rfl ?_
  refine gr_iconst 0 X dX12_read_10 (by decide) ?_
  refine gr_istore_n [(2, .int 0), (1, .int v2), (0, .ref (gx_ad x 0))] X dX12_read_11 rfl rfl (by decide) rfl ?_
  refine gr_iconst 0 X dX12_read_12 (by decide) ?_
  refine gr_istore_n [(3, .int 0), (2, .int 0), (1, .int v2), (0, .ref (gx_ad x 0))] X dX12_read_13 rfl rfl (by decide) rfl ?_
  refine gr_sub (lv' := [(0, .ref (gx_ad x 0)), (1, .int v2), (2, .int 0), (3, .int 0)]) [3, 2, 1, 0] rfl ?_
  exact b12_read_14 X hc hE _ _ _ _ _ hf

def f12_twice_20 : Nat → Int32 → Int32 → Int32 → gz_M → Option (Int32 × gz_M)
  | 0, _, _, _, _ => none
  | n + 1, x1, x2, x3, M0 => if 102400 ≤ x3 then (gz_lt (gz_w M0 0 4 0) fun M2 => gz_bd (f12_tell (x2.toInt64) M2) fun M3 => some (x1, M3)) else (gz_ck (gz_inb x3 102400) <| if 2 ≤ (M0.1 18 x3.toNatClampNeg) then (gz_lt (x1 + 1) fun v7 => gz_ck (gz_inb x3 102400) <| gz_lt (gz_max x2 (M0.1 18 x3.toNatClampNeg)) fun v9 => gz_lt (x3 + 1) fun v10 => f12_twice_20 n v7 v9 v10 M0) else (gz_lt (x3 + 1) fun v11 => f12_twice_20 n x1 x2 v11 M0))
theorem b12_twice_20 {x : gz_X} {pf : Nat → Bool} {l : Launch} {r : Int32} {M' : gz_M} (X : gz_Ok x cX12_twice RX12 4 4 gz_cfR pf l) (hc : gx_cells x ≤ (gx_R x).cells ∧ gx_slots x ≤ (gx_R x).slots) (hE : gz_EI x cX12_twice .int r M') : ∀ (n : Nat) (x1 : Int32) (x2 : Int32) (x3 : Int32) (M0 : gz_M), f12_twice_20 n x1 x2 x3 M0 = some (r, M') → gz_At x 20 [(0, .ref (gx_ad x 0)), (1, .int x1), (2, .int x2), (3, .int x3)] [] M0 := by
  intro n
  induction n with
  | zero =>
    intro x1 x2 x3 M0  hf
    rw [f12_twice_20] at hf
    cases hf
  | succ n ih =>
    intro x1 x2 x3 M0  hf
    rw [f12_twice_20] at hf
    refine gr_iload_n X dX12_twice_20 3 rfl rfl ?_
    refine gr_ldc 102400 X dX12_twice_21 wk_RX12_64 ?_
    refine gr_icmp_ge 59 X dX12_twice_23 (by decide) (fun h1 => ?_) (fun h1 => ?_)
    · rw [if_pos h1] at hf
      refine gr_aload_n X dX12_twice_59 0 rfl rfl ?_
      refine gr_iconst 0 X dX12_twice_60 (by decide) ?_
      obtain ⟨M2, eM2, hf⟩ := gz_lte hf
      refine gp12_4 X wf_RX12_127 eM2 dX12_twice_61 ?_
      refine gr_aload_n X dX12_twice_64 0 rfl rfl ?_
      refine gr_iload_n X dX12_twice_65 2 rfl rfl ?_
      refine gr_i2l X dX12_twice_66 ?_
      obtain ⟨M3, q4, hf⟩ := gz_bde hf
      refine gr_callV (asF := fun ad => [.ref (ad 0), .long (x2.toInt64)]) [.long (x2.toInt64)] X (c12_tell q4) rfl wm_RX12_280 rfl (X.kd gk_R0).1 ((X.kd gk_R0).2 _ _ _ _) rfl (by decide) (by decide) rfl (Nat.le_of_ble_eq_true rfl) hc dX12_twice_67 ?_
      refine gr_iload_n X dX12_twice_70 1 rfl rfl ?_
      exact gz_EIu hE hf rfl dX12_twice_71
    · rw [if_neg h1] at hf
      refine gr_aload_n X dX12_twice_26 0 rfl rfl ?_
      refine gf12_33 X wf_RX12_65 dX12_twice_27 ?_
      refine gr_iload_n X dX12_twice_30 3 rfl rfl ?_
      obtain ⟨h5, hf⟩ := gz_cke hf
      refine gr_iaload X gk_R18 (gz_inp h5) dX12_twice_31 ?_
      refine gr_iconst 2 X dX12_twice_32 (by decide) ?_
      refine gr_icmp_ge 39 X dX12_twice_33 (by decide) (fun h6 => ?_) (fun h6 => ?_)
      · rw [if_pos h6] at hf
        obtain ⟨v7, ev7, hf⟩ := gz_lte hf
        refine gr_iinc 1 [(1, .int v7), (0, .ref (gx_ad x 0)), (2, .int x2), (3, .int x3)] X dX12_twice_39 1 rfl (by decide) ev7 (by decide) rfl ?_
        refine gr_iload_n X dX12_twice_42 2 rfl rfl ?_
        refine gr_aload_n X dX12_twice_43 1 rfl rfl ?_
        refine gf12_33 X wf_RX12_65 dX12_twice_44 ?_
        refine gr_iload_n X dX12_twice_47 3 rfl rfl ?_
        obtain ⟨h8, hf⟩ := gz_cke hf
        refine gr_iaload X gk_R18 (gz_inp h8) dX12_twice_48 ?_
        refine gr_mmax X (by decide) wl_RX12_244 hc (Nat.le_of_ble_eq_true rfl) dX12_twice_49 ?_
        obtain ⟨v9, ev9, hf⟩ := gz_lte hf
        refine gr_istore_n [(2, .int v9), (1, .int v7), (0, .ref (gx_ad x 0)), (3, .int x3)] X dX12_twice_52 ev9 rfl (by decide) rfl ?_
        obtain ⟨v10, ev10, hf⟩ := gz_lte hf
        refine gr_iinc 1 [(3, .int v10), (2, .int v9), (1, .int v7), (0, .ref (gx_ad x 0))] X dX12_twice_53 3 rfl (by decide) ev10 (by decide) rfl ?_
        refine gr_goto 20 X dX12_twice_56 (by decide) ?_
        refine gr_sub (lv' := [(0, .ref (gx_ad x 0)), (1, .int v7), (2, .int v9), (3, .int v10)]) [3, 2, 1, 0] rfl ?_
        exact ih _ _ _ _ hf
      · rw [if_neg h6] at hf
        refine gr_goto 53 X dX12_twice_36 (by decide) ?_
        obtain ⟨v11, ev11, hf⟩ := gz_lte hf
        refine gr_iinc 1 [(3, .int v11), (0, .ref (gx_ad x 0)), (1, .int x1), (2, .int x2)] X dX12_twice_53 3 rfl (by decide) ev11 (by decide) rfl ?_
        refine gr_goto 20 X dX12_twice_56 (by decide) ?_
        refine gr_sub (lv' := [(0, .ref (gx_ad x 0)), (1, .int x1), (2, .int x2), (3, .int v11)]) [1, 2, 3, 0] rfl ?_
        exact ih _ _ _ _ hf

def f12_twice (M0 : gz_M) : Option (Int32 × gz_M) := gz_lt (gz_w M0 0 5 0) fun M1 => gz_bd (f12_forget M1) fun M2 => gz_bd (f12_cutAll 0 M2) fun M4 => f12_twice_20 gz_FU 0 0 0 M4
set_option maxRecDepth 100000 in
theorem c12_twice {pf : Nat → Bool} {l : Launch} {r : Int32} {M0 M' : gz_M} (hf : f12_twice M0 = some (r, M')) : gz_CI l gz_cfR yX12_twice cX12_twice 4 4 .int (fun ad => [.ref (ad 0)]) pf M0 r M' := by
  refine gz_ofI (by decide +kernel) (fun _ => Nat.le_of_ble_eq_true rfl) (fun x X hc hE => ?_)
  show gz_At x 0 [(0, .ref (gx_ad x 0))] [] M0
  unfold f12_twice at hf
  refine gr_aload_n X dX12_twice_0 0 rfl rfl ?_
  refine gr_iconst 0 X dX12_twice_1 (by decide) ?_
  obtain ⟨M1, eM1, hf⟩ := gz_lte hf
  refine gp12_5 X wf_RX12_123 eM1 dX12_twice_2 ?_
  refine gr_aload_n X dX12_twice_5 0 rfl rfl ?_
  obtain ⟨M2, q3, hf⟩ := gz_bde hf
  refine gr_callV (asF := fun ad => [.ref (ad 0)]) [] X (c12_forget q3) rfl wm_RX12_267 rfl (X.kd gk_R0).1 ((X.kd gk_R0).2 _ _ _ _) rfl (by decide) (by decide) rfl (Nat.le_of_ble_eq_true rfl) hc dX12_twice_6 ?_
  refine gr_aload_n X dX12_twice_9 0 rfl rfl ?_
  refine gr_iconst 0 X dX12_twice_10 (by decide) ?_
  obtain ⟨M4, q5, hf⟩ := gz_bde hf
  refine gr_callV (asF := fun ad => [.ref (ad 0), .int 0]) [.int 0] X (c12_cutAll q5) rfl wm_RX12_274 rfl (X.kd gk_R0).1 ((X.kd gk_R0).2 _ _ _ _) rfl (by decide) (by decide) rfl (Nat.le_of_ble_eq_true rfl) hc dX12_twice_11 ?_
  refine gr_iconst 0 X dX12_twice_14 (by decide) ?_
  refine gr_istore_n [(1, .int 0), (0, .ref (gx_ad x 0))] X dX12_twice_15 rfl rfl (by decide) rfl ?_
  refine gr_iconst 0 X dX12_twice_16 (by decide) ?_
  refine gr_istore_n [(2, .int 0), (1, .int 0), (0, .ref (gx_ad x 0))] X dX12_twice_17 rfl rfl (by decide) rfl ?_
  refine gr_iconst 0 X dX12_twice_18 (by decide) ?_
  refine gr_istore_n [(3, .int 0), (2, .int 0), (1, .int 0), (0, .ref (gx_ad x 0))] X dX12_twice_19 rfl rfl (by decide) rfl ?_
  refine gr_sub (lv' := [(0, .ref (gx_ad x 0)), (1, .int 0), (2, .int 0), (3, .int 0)]) [3, 2, 1, 0] rfl ?_
  exact b12_twice_20 X hc hE _ _ _ _ _ hf

def f12_longest_126 (x4 : Int32) (x5 : Int32) (M0 : gz_M) : Option (Int32 × gz_M) := if 0 ≤ x4 then (gz_lt (gz_w M0 0 4 0) fun M2 => gz_bd (f12_tell (x5.toInt64) M2) fun M3 => some (x4, M3)) else (some (x4, M0))
theorem b12_longest_126 {x : gz_X} {pf : Nat → Bool} {l : Launch} {r : Int32} {M' : gz_M} (X : gz_Ok x cX12_longest RX12 8 3 gz_cfR pf l) (hc : gx_cells x ≤ (gx_R x).cells ∧ gx_slots x ≤ (gx_R x).slots) (hE : gz_EI x cX12_longest .int r M') : ∀ (x4 : Int32) (x5 : Int32) (M0 : gz_M), f12_longest_126 x4 x5 M0 = some (r, M') → gz_At x 126 [(0, .ref (gx_ad x 0)), (4, .int x4), (5, .int x5)] [] M0 := by
  intro x4 x5 M0  hf
  rw [f12_longest_126] at hf
  refine gr_iload X dX12_longest_126 1 rfl ?_
  refine gr_if_ge 134 X dX12_longest_128 (by decide) (fun h1 => ?_) (fun h1 => ?_)
  · rw [if_pos h1] at hf
    refine gr_aload_n X dX12_longest_134 0 rfl rfl ?_
    refine gr_iconst 0 X dX12_longest_135 (by decide) ?_
    obtain ⟨M2, eM2, hf⟩ := gz_lte hf
    refine gp12_4 X wf_RX12_127 eM2 dX12_longest_136 ?_
    refine gr_aload_n X dX12_longest_139 0 rfl rfl ?_
    refine gr_iload X dX12_longest_140 2 rfl ?_
    refine gr_i2l X dX12_longest_142 ?_
    obtain ⟨M3, q4, hf⟩ := gz_bde hf
    refine gr_callV (asF := fun ad => [.ref (ad 0), .long (x5.toInt64)]) [.long (x5.toInt64)] X (c12_tell q4) rfl wm_RX12_280 rfl (X.kd gk_R0).1 ((X.kd gk_R0).2 _ _ _ _) rfl (by decide) (by decide) rfl (Nat.le_of_ble_eq_true rfl) hc dX12_longest_143 ?_
    refine gr_iload X dX12_longest_146 1 rfl ?_
    exact gz_EIu hE hf rfl dX12_longest_148
  · rw [if_neg h1] at hf
    refine gr_iload X dX12_longest_131 1 rfl ?_
    exact gz_EIu hE hf rfl dX12_longest_133

def f12_longest_77 (c41 : Int32 → Int32 → Int32 → Int32 → Int32 → Int32 → gz_M → Option (Int32 × gz_M)) (x1 : Int32) (x2 : Int32) (x4 : Int32) (x5 : Int32) (x6 : Int32) (s0 : Int32) (s1 : Int32) (s2 : Int32) (M0 : gz_M) : Option (Int32 × gz_M) := gz_ck (gz_inb (82 + x6) 106) <| gz_bd2 (f12_step s2 s1 s0 (M0.1 1 (82 + x6).toNatClampNeg) M0) fun v2 M3 => gz_bd2 (f12_winner x1 v2 M3) fun v5 M6 => if v5 = (-1) then (gz_lt (x6 + 1) fun v9 => c41 x1 x2 v2 x4 x5 v9 M6) else (gz_lt ((x6 + 1) - x2) fun v10 => gz_lt (x6 + 1) fun v11 => c41 x1 x2 v2 v10 v5 v11 M6)
theorem b12_longest_77 {x : gz_X} {pf : Nat → Bool} {l : Launch} {r : Int32} {M' : gz_M} (X : gz_Ok x cX12_longest RX12 8 3 gz_cfR pf l) (hc : gx_cells x ≤ (gx_R x).cells ∧ gx_slots x ≤ (gx_R x).slots) (hE : gz_EI x cX12_longest .int r M') {c41 : Int32 → Int32 → Int32 → Int32 → Int32 → Int32 → gz_M → Option (Int32 × gz_M)} (hc41 : ∀ (x1 : Int32) (x2 : Int32) (x3 : Int32) (x4 : Int32) (x5 : Int32) (x6 : Int32) (M0 : gz_M), c41 x1 x2 x3 x4 x5 x6 M0 = some (r, M') → gz_At x 41 [(0, .ref (gx_ad x 0)), (1, .int x1), (2, .int x2), (3, .int x3), (4, .int x4), (5, .int x5), (6, .int x6)] [] M0) : ∀ (x1 : Int32) (x2 : Int32) (x4 : Int32) (x5 : Int32) (x6 : Int32) (s0 : Int32) (s1 : Int32) (s2 : Int32) (M0 : gz_M), f12_longest_77 c41 x1 x2 x4 x5 x6 s0 s1 s2 M0 = some (r, M') → gz_At x 77 [(0, .ref (gx_ad x 0)), (1, .int x1), (2, .int x2), (4, .int x4), (5, .int x5), (6, .int x6)] [.int s0, .int s1, .int s2, .ref (gx_ad x 0)] M0 := by
  intro x1 x2 x4 x5 x6 s0 s1 s2 M0  hf
  rw [f12_longest_77] at hf
  refine gr_aload_n X dX12_longest_77 0 rfl rfl ?_
  refine gf12_0 X wf_RX12_9 dX12_longest_78 ?_
  refine gr_bipush 82 X dX12_longest_81 (by decide) ?_
  refine gr_iload X dX12_longest_83 5 rfl ?_
  refine gr_iadd X dX12_longest_85 ?_
  obtain ⟨h1, hf⟩ := gz_cke hf
  refine gr_iaload X gk_R1 (gz_inp h1) dX12_longest_86 ?_
  obtain ⟨v2, M3, q4, hf⟩ := gz_bd2e hf
  refine gr_callI (asF := fun ad => [.ref (ad 0), .int s2, .int s1, .int s0, .int (M0.1 1 (82 + x6).toNatClampNeg)]) [.int s2, .int s1, .int s0, .int (M0.1 1 (82 + x6).toNatClampNeg)] X (c12_step q4) rfl wm_RX12_250 rfl (X.kd gk_R0).1 ((X.kd gk_R0).2 _ _ _ _) rfl (by decide) (by decide) rfl (Nat.le_of_ble_eq_true rfl) hc dX12_longest_87 ?_
  refine gr_istore_n [(3, .int v2), (0, .ref (gx_ad x 0)), (1, .int x1), (2, .int x2), (4, .int x4), (5, .int x5), (6, .int x6)] X dX12_longest_90 rfl rfl (by decide) rfl ?_
  refine gr_aload_n X dX12_longest_91 1 rfl rfl ?_
  refine gr_iload_n X dX12_longest_92 2 rfl rfl ?_
  refine gr_iload_n X dX12_longest_93 0 rfl rfl ?_
  obtain ⟨v5, M6, q7, hf⟩ := gz_bd2e hf
  refine gr_callI (asF := fun ad => [.ref (ad 0), .int x1, .int v2]) [.int x1, .int v2] X (c12_winner q7) rfl wm_RX12_258 rfl (X.kd gk_R0).1 ((X.kd gk_R0).2 _ _ _ _) rfl (by decide) (by decide) rfl (Nat.le_of_ble_eq_true rfl) hc dX12_longest_94 ?_
  refine gr_istore [(7, .int v5), (3, .int v2), (0, .ref (gx_ad x 0)), (1, .int x1), (2, .int x2), (4, .int x4), (5, .int x5), (6, .int x6)] X dX12_longest_97 rfl (by decide) rfl ?_
  refine gr_iload X dX12_longest_99 0 rfl ?_
  refine gr_iconst (-1) X dX12_longest_101 (by decide) ?_
  refine gr_icmp_ne 108 X dX12_longest_102 (by decide) (fun h8 => ?_) (fun h8 => ?_)
  · rw [if_pos h8] at hf
    refine gr_goto 120 X dX12_longest_105 (by decide) ?_
    obtain ⟨v9, ev9, hf⟩ := gz_lte hf
    refine gr_iinc 1 [(6, .int v9), (7, .int v5), (3, .int v2), (0, .ref (gx_ad x 0)), (1, .int x1), (2, .int x2), (4, .int x4), (5, .int x5)] X dX12_longest_120 7 rfl (by decide) ev9 (by decide) rfl ?_
    refine gr_goto 41 X dX12_longest_123 (by decide) ?_
    refine gr_sub (lv' := [(0, .ref (gx_ad x 0)), (1, .int x1), (2, .int x2), (3, .int v2), (4, .int x4), (5, .int x5), (6, .int v9)]) [3, 4, 5, 2, 6, 7, 0] rfl ?_
    exact hc41 _ _ _ _ _ _ _ hf
  · rw [if_neg h8] at hf
    refine gr_iload X dX12_longest_108 7 rfl ?_
    refine gr_iconst 1 X dX12_longest_110 (by decide) ?_
    refine gr_iadd X dX12_longest_111 ?_
    refine gr_iload_n X dX12_longest_112 4 rfl rfl ?_
    refine gr_isub X dX12_longest_113 ?_
    obtain ⟨v10, ev10, hf⟩ := gz_lte hf
    refine gr_istore [(4, .int v10), (7, .int v5), (3, .int v2), (0, .ref (gx_ad x 0)), (1, .int x1), (2, .int x2), (5, .int x5), (6, .int x6)] X dX12_longest_114 ev10 (by decide) rfl ?_
    refine gr_iload X dX12_longest_116 1 rfl ?_
    refine gr_istore [(5, .int v5), (4, .int v10), (7, .int v5), (3, .int v2), (0, .ref (gx_ad x 0)), (1, .int x1), (2, .int x2), (6, .int x6)] X dX12_longest_118 rfl (by decide) rfl ?_
    obtain ⟨v11, ev11, hf⟩ := gz_lte hf
    refine gr_iinc 1 [(6, .int v11), (5, .int v5), (4, .int v10), (7, .int v5), (3, .int v2), (0, .ref (gx_ad x 0)), (1, .int x1), (2, .int x2)] X dX12_longest_120 7 rfl (by decide) ev11 (by decide) rfl ?_
    refine gr_goto 41 X dX12_longest_123 (by decide) ?_
    refine gr_sub (lv' := [(0, .ref (gx_ad x 0)), (1, .int x1), (2, .int x2), (3, .int v2), (4, .int v10), (5, .int v5), (6, .int v11)]) [5, 6, 7, 4, 2, 1, 0] rfl ?_
    exact hc41 _ _ _ _ _ _ _ hf

def f12_longest_63 (c41 : Int32 → Int32 → Int32 → Int32 → Int32 → Int32 → gz_M → Option (Int32 × gz_M)) (x1 : Int32) (x2 : Int32) (x3 : Int32) (x4 : Int32) (x5 : Int32) (x6 : Int32) (M0 : gz_M) : Option (Int32 × gz_M) := if x6 = x2 then (f12_longest_77 c41 x1 x2 x4 x5 x6 1 x3 x1 M0) else (f12_longest_77 c41 x1 x2 x4 x5 x6 0 x3 x1 M0)
theorem b12_longest_63 {x : gz_X} {pf : Nat → Bool} {l : Launch} {r : Int32} {M' : gz_M} (X : gz_Ok x cX12_longest RX12 8 3 gz_cfR pf l) (hc : gx_cells x ≤ (gx_R x).cells ∧ gx_slots x ≤ (gx_R x).slots) (hE : gz_EI x cX12_longest .int r M') {c41 : Int32 → Int32 → Int32 → Int32 → Int32 → Int32 → gz_M → Option (Int32 × gz_M)} (hc41 : ∀ (x1 : Int32) (x2 : Int32) (x3 : Int32) (x4 : Int32) (x5 : Int32) (x6 : Int32) (M0 : gz_M), c41 x1 x2 x3 x4 x5 x6 M0 = some (r, M') → gz_At x 41 [(0, .ref (gx_ad x 0)), (1, .int x1), (2, .int x2), (3, .int x3), (4, .int x4), (5, .int x5), (6, .int x6)] [] M0) : ∀ (x1 : Int32) (x2 : Int32) (x3 : Int32) (x4 : Int32) (x5 : Int32) (x6 : Int32) (M0 : gz_M), f12_longest_63 c41 x1 x2 x3 x4 x5 x6 M0 = some (r, M') → gz_At x 63 [(0, .ref (gx_ad x 0)), (1, .int x1), (2, .int x2), (3, .int x3), (4, .int x4), (5, .int x5), (6, .int x6)] [] M0 := by
  intro x1 x2 x3 x4 x5 x6 M0  hf
  rw [f12_longest_63] at hf
  refine gr_aload_n X dX12_longest_63 0 rfl rfl ?_
  refine gr_iload_n X dX12_longest_64 1 rfl rfl ?_
  refine gr_iload_n X dX12_longest_65 3 rfl rfl ?_
  refine gr_iload X dX12_longest_66 6 rfl ?_
  refine gr_iload_n X dX12_longest_68 2 rfl rfl ?_
  refine gr_icmp_ne 76 X dX12_longest_69 (by decide) (fun h1 => ?_) (fun h1 => ?_)
  · rw [if_pos h1] at hf
    refine gr_iconst 1 X dX12_longest_72 (by decide) ?_
    refine gr_goto 77 X dX12_longest_73 (by decide) ?_
    refine gr_sub (lv' := [(0, .ref (gx_ad x 0)), (1, .int x1), (2, .int x2), (4, .int x4), (5, .int x5), (6, .int x6)]) [0, 1, 2, 4, 5, 6] rfl ?_
    exact b12_longest_77 X hc hE hc41 _ _ _ _ _ _ _ _ _ hf
  · rw [if_neg h1] at hf
    refine gr_iconst 0 X dX12_longest_76 (by decide) ?_
    refine gr_sub (lv' := [(0, .ref (gx_ad x 0)), (1, .int x1), (2, .int x2), (4, .int x4), (5, .int x5), (6, .int x6)]) [0, 1, 2, 4, 5, 6] rfl ?_
    exact b12_longest_77 X hc hE hc41 _ _ _ _ _ _ _ _ _ hf

def f12_longest_41 : Nat → Int32 → Int32 → Int32 → Int32 → Int32 → Int32 → gz_M → Option (Int32 × gz_M)
  | 0, _, _, _, _, _, _, _ => none
  | n + 1, x1, x2, x3, x4, x5, x6, M0 => gz_ck (gz_inb 81 106) <| if (M0.1 1 (81 : Int32).toNatClampNeg) ≤ x6 then (f12_longest_126 x4 x5 M0) else (if x6 = x2 then (f12_longest_63 (f12_longest_41 n) x1 x2 x3 x4 x5 x6 M0) else (if x3 = 0 then (f12_longest_126 x4 x5 M0) else (f12_longest_63 (f12_longest_41 n) x1 x2 x3 x4 x5 x6 M0)))
theorem b12_longest_41 {x : gz_X} {pf : Nat → Bool} {l : Launch} {r : Int32} {M' : gz_M} (X : gz_Ok x cX12_longest RX12 8 3 gz_cfR pf l) (hc : gx_cells x ≤ (gx_R x).cells ∧ gx_slots x ≤ (gx_R x).slots) (hE : gz_EI x cX12_longest .int r M') : ∀ (n : Nat) (x1 : Int32) (x2 : Int32) (x3 : Int32) (x4 : Int32) (x5 : Int32) (x6 : Int32) (M0 : gz_M), f12_longest_41 n x1 x2 x3 x4 x5 x6 M0 = some (r, M') → gz_At x 41 [(0, .ref (gx_ad x 0)), (1, .int x1), (2, .int x2), (3, .int x3), (4, .int x4), (5, .int x5), (6, .int x6)] [] M0 := by
  intro n
  induction n with
  | zero =>
    intro x1 x2 x3 x4 x5 x6 M0  hf
    rw [f12_longest_41] at hf
    cases hf
  | succ n ih =>
    intro x1 x2 x3 x4 x5 x6 M0  hf
    rw [f12_longest_41] at hf
    refine gr_iload X dX12_longest_41 6 rfl ?_
    refine gr_aload_n X dX12_longest_43 0 rfl rfl ?_
    refine gf12_0 X wf_RX12_9 dX12_longest_44 ?_
    refine gr_bipush 81 X dX12_longest_47 (by decide) ?_
    obtain ⟨h1, hf⟩ := gz_cke hf
    refine gr_iaload X gk_R1 (gz_inp h1) dX12_longest_49 ?_
    refine gr_icmp_ge 126 X dX12_longest_50 (by decide) (fun h2 => ?_) (fun h2 => ?_)
    · rw [if_pos h2] at hf
      refine gr_sub (lv' := [(0, .ref (gx_ad x 0)), (4, .int x4), (5, .int x5)]) [0, 4, 5] rfl ?_
      exact b12_longest_126 X hc hE _ _ _ hf
    · rw [if_neg h2] at hf
      refine gr_iload X dX12_longest_53 6 rfl ?_
      refine gr_iload_n X dX12_longest_55 2 rfl rfl ?_
      refine gr_icmp_eq 63 X dX12_longest_56 (by decide) (fun h3 => ?_) (fun h3 => ?_)
      · rw [if_pos h3] at hf
        exact b12_longest_63 X hc hE ih _ _ _ _ _ _ _ hf
      · rw [if_neg h3] at hf
        refine gr_iload_n X dX12_longest_59 3 rfl rfl ?_
        refine gr_if_eq 126 X dX12_longest_60 (by decide) (fun h4 => ?_) (fun h4 => ?_)
        · rw [if_pos h4] at hf
          refine gr_sub (lv' := [(0, .ref (gx_ad x 0)), (4, .int x4), (5, .int x5)]) [0, 4, 5] rfl ?_
          exact b12_longest_126 X hc hE _ _ _ hf
        · rw [if_neg h4] at hf
          exact b12_longest_63 X hc hE ih _ _ _ _ _ _ _ hf

def f12_longest (a0 : Int32) (a1 : Int32) (M0 : gz_M) : Option (Int32 × gz_M) := gz_lt (gz_w M0 0 5 0) fun M1 => gz_bd2 (f12_isMode a0 M1) fun v2 M3 => if v2 = 0 then (some ((-1), M3)) else (gz_ck (gz_inb 81 106) <| gz_bd2 (f12_in a1 0 (M3.1 1 (81 : Int32).toNatClampNeg) M3) fun v7 M8 => if v7 = 0 then (some ((-1), M8)) else (f12_longest_41 gz_FU a0 a1 0 (-2) (-1) a1 M8))
set_option maxRecDepth 100000 in
theorem c12_longest {pf : Nat → Bool} {l : Launch} {r : Int32} {M0 M' : gz_M} {a0 : Int32} {a1 : Int32} (hf : f12_longest a0 a1 M0 = some (r, M')) : gz_CI l gz_cfR yX12_longest cX12_longest 8 3 .int (fun ad => [.ref (ad 0), .int a0, .int a1]) pf M0 r M' := by
  refine gz_ofI (by decide +kernel) (fun _ => Nat.le_of_ble_eq_true rfl) (fun x X hc hE => ?_)
  show gz_At x 0 [(0, .ref (gx_ad x 0)), (1, .int a0), (2, .int a1)] [] M0
  unfold f12_longest at hf
  refine gr_aload_n X dX12_longest_0 0 rfl rfl ?_
  refine gr_iconst 0 X dX12_longest_1 (by decide) ?_
  obtain ⟨M1, eM1, hf⟩ := gz_lte hf
  refine gp12_5 X wf_RX12_123 eM1 dX12_longest_2 ?_
  refine gr_iload_n X dX12_longest_5 1 rfl rfl ?_
  obtain ⟨v2, M3, q4, hf⟩ := gz_bd2e hf
  refine gr_callSI (asF := fun _ => [.int a0]) [.int a0] X (c12_isMode q4) rfl wm_RX12_293 rfl (by decide) (by decide) rfl (Nat.le_of_ble_eq_true rfl) hc dX12_longest_6 ?_
  refine gr_if_eq 27 X dX12_longest_9 (by decide) (fun h5 => ?_) (fun h5 => ?_)
  · rw [if_pos h5] at hf
    refine gr_iconst (-1) X dX12_longest_27 (by decide) ?_
    exact gz_EIu hE hf rfl dX12_longest_28
  · rw [if_neg h5] at hf
    refine gr_iload_n X dX12_longest_12 2 rfl rfl ?_
    refine gr_iconst 0 X dX12_longest_13 (by decide) ?_
    refine gr_aload_n X dX12_longest_14 0 rfl rfl ?_
    refine gf12_0 X wf_RX12_9 dX12_longest_15 ?_
    refine gr_bipush 81 X dX12_longest_18 (by decide) ?_
    obtain ⟨h6, hf⟩ := gz_cke hf
    refine gr_iaload X gk_R1 (gz_inp h6) dX12_longest_20 ?_
    obtain ⟨v7, M8, q9, hf⟩ := gz_bd2e hf
    refine gr_callSI (asF := fun _ => [.int a1, .int 0, .int (M3.1 1 (81 : Int32).toNatClampNeg)]) [.int a1, .int 0, .int (M3.1 1 (81 : Int32).toNatClampNeg)] X (c12_in q9) rfl wm_RX12_133 rfl (by decide) (by decide) rfl (Nat.le_of_ble_eq_true rfl) hc dX12_longest_21 ?_
    refine gr_if_ne 29 X dX12_longest_24 (by decide) (fun h10 => ?_) (fun h10 => ?_)
    · rw [if_pos h10] at hf
      refine gr_iconst (-1) X dX12_longest_27 (by decide) ?_
      exact gz_EIu hE hf rfl dX12_longest_28
    · rw [if_neg h10] at hf
      refine gr_iconst 0 X dX12_longest_29 (by decide) ?_
      refine gr_istore_n [(3, .int 0), (0, .ref (gx_ad x 0)), (1, .int a0), (2, .int a1)] X dX12_longest_30 rfl rfl (by decide) rfl ?_
      refine gr_bipush (-2) X dX12_longest_31 (by decide) ?_
      refine gr_istore [(4, .int (-2)), (3, .int 0), (0, .ref (gx_ad x 0)), (1, .int a0), (2, .int a1)] X dX12_longest_33 rfl (by decide) rfl ?_
      refine gr_iconst (-1) X dX12_longest_35 (by decide) ?_
      refine gr_istore [(5, .int (-1)), (4, .int (-2)), (3, .int 0), (0, .ref (gx_ad x 0)), (1, .int a0), (2, .int a1)] X dX12_longest_36 rfl (by decide) rfl ?_
      refine gr_iload_n X dX12_longest_38 5 rfl rfl ?_
      refine gr_istore [(6, .int a1), (5, .int (-1)), (4, .int (-2)), (3, .int 0), (0, .ref (gx_ad x 0)), (1, .int a0), (2, .int a1)] X dX12_longest_39 rfl (by decide) rfl ?_
      refine gr_sub (lv' := [(0, .ref (gx_ad x 0)), (1, .int a0), (2, .int a1), (3, .int 0), (4, .int (-2)), (5, .int (-1)), (6, .int a1)]) [4, 5, 6, 3, 2, 1, 0] rfl ?_
      exact b12_longest_41 X hc hE _ _ _ _ _ _ _ _ hf

def f12_standingBehind_38 (c6 : Int32 → Int32 → Int32 → Int32 → Int32 → gz_M → Option (Int32 × gz_M)) (x1 : Int32) (x2 : Int32) (x3 : Int32) (x5 : Int32) (s0 : Int32) (s1 : Int32) (s2 : Int32) (M0 : gz_M) : Option (Int32 × gz_M) := gz_ck (gz_inb (82 + x5) 106) <| gz_bd2 (f12_step s2 s1 s0 (M0.1 1 (82 + x5).toNatClampNeg) M0) fun v2 M3 => gz_lt (x5 + 1) fun v5 => c6 x1 x2 x3 v2 v5 M3
theorem b12_standingBehind_38 {x : gz_X} {pf : Nat → Bool} {l : Launch} {r : Int32} {M' : gz_M} (X : gz_Ok x cX12_standingBehind RX12 6 2 gz_cfR pf l) (hc : gx_cells x ≤ (gx_R x).cells ∧ gx_slots x ≤ (gx_R x).slots) (hE : gz_EI x cX12_standingBehind .int r M') {c6 : Int32 → Int32 → Int32 → Int32 → Int32 → gz_M → Option (Int32 × gz_M)} (hc6 : ∀ (x1 : Int32) (x2 : Int32) (x3 : Int32) (x4 : Int32) (x5 : Int32) (M0 : gz_M), c6 x1 x2 x3 x4 x5 M0 = some (r, M') → gz_At x 6 [(0, .ref (gx_ad x 0)), (1, .int x1), (2, .int x2), (3, .int x3), (4, .int x4), (5, .int x5)] [] M0) : ∀ (x1 : Int32) (x2 : Int32) (x3 : Int32) (x5 : Int32) (s0 : Int32) (s1 : Int32) (s2 : Int32) (M0 : gz_M), f12_standingBehind_38 c6 x1 x2 x3 x5 s0 s1 s2 M0 = some (r, M') → gz_At x 38 [(0, .ref (gx_ad x 0)), (1, .int x1), (2, .int x2), (3, .int x3), (5, .int x5)] [.int s0, .int s1, .int s2, .ref (gx_ad x 0)] M0 := by
  intro x1 x2 x3 x5 s0 s1 s2 M0  hf
  rw [f12_standingBehind_38] at hf
  refine gr_aload_n X dX12_standingBehind_38 0 rfl rfl ?_
  refine gf12_0 X wf_RX12_9 dX12_standingBehind_39 ?_
  refine gr_bipush 82 X dX12_standingBehind_42 (by decide) ?_
  refine gr_iload X dX12_standingBehind_44 4 rfl ?_
  refine gr_iadd X dX12_standingBehind_46 ?_
  obtain ⟨h1, hf⟩ := gz_cke hf
  refine gr_iaload X gk_R1 (gz_inp h1) dX12_standingBehind_47 ?_
  obtain ⟨v2, M3, q4, hf⟩ := gz_bd2e hf
  refine gr_callI (asF := fun ad => [.ref (ad 0), .int s2, .int s1, .int s0, .int (M0.1 1 (82 + x5).toNatClampNeg)]) [.int s2, .int s1, .int s0, .int (M0.1 1 (82 + x5).toNatClampNeg)] X (c12_step q4) rfl wm_RX12_250 rfl (X.kd gk_R0).1 ((X.kd gk_R0).2 _ _ _ _) rfl (by decide) (by decide) rfl (Nat.le_of_ble_eq_true rfl) hc dX12_standingBehind_48 ?_
  refine gr_istore [(4, .int v2), (0, .ref (gx_ad x 0)), (1, .int x1), (2, .int x2), (3, .int x3), (5, .int x5)] X dX12_standingBehind_51 rfl (by decide) rfl ?_
  obtain ⟨v5, ev5, hf⟩ := gz_lte hf
  refine gr_iinc 1 [(5, .int v5), (4, .int v2), (0, .ref (gx_ad x 0)), (1, .int x1), (2, .int x2), (3, .int x3)] X dX12_standingBehind_53 5 rfl (by decide) ev5 (by decide) rfl ?_
  refine gr_goto 6 X dX12_standingBehind_56 (by decide) ?_
  refine gr_sub (lv' := [(0, .ref (gx_ad x 0)), (1, .int x1), (2, .int x2), (3, .int x3), (4, .int v2), (5, .int v5)]) [2, 3, 4, 5, 1, 0] rfl ?_
  exact hc6 _ _ _ _ _ _ hf

def f12_standingBehind_23 (c6 : Int32 → Int32 → Int32 → Int32 → Int32 → gz_M → Option (Int32 × gz_M)) (x1 : Int32) (x2 : Int32) (x3 : Int32) (x4 : Int32) (x5 : Int32) (M0 : gz_M) : Option (Int32 × gz_M) := if x5 = x2 then (f12_standingBehind_38 c6 x1 x2 x3 x5 1 x4 x1 M0) else (f12_standingBehind_38 c6 x1 x2 x3 x5 0 x4 x1 M0)
theorem b12_standingBehind_23 {x : gz_X} {pf : Nat → Bool} {l : Launch} {r : Int32} {M' : gz_M} (X : gz_Ok x cX12_standingBehind RX12 6 2 gz_cfR pf l) (hc : gx_cells x ≤ (gx_R x).cells ∧ gx_slots x ≤ (gx_R x).slots) (hE : gz_EI x cX12_standingBehind .int r M') {c6 : Int32 → Int32 → Int32 → Int32 → Int32 → gz_M → Option (Int32 × gz_M)} (hc6 : ∀ (x1 : Int32) (x2 : Int32) (x3 : Int32) (x4 : Int32) (x5 : Int32) (M0 : gz_M), c6 x1 x2 x3 x4 x5 M0 = some (r, M') → gz_At x 6 [(0, .ref (gx_ad x 0)), (1, .int x1), (2, .int x2), (3, .int x3), (4, .int x4), (5, .int x5)] [] M0) : ∀ (x1 : Int32) (x2 : Int32) (x3 : Int32) (x4 : Int32) (x5 : Int32) (M0 : gz_M), f12_standingBehind_23 c6 x1 x2 x3 x4 x5 M0 = some (r, M') → gz_At x 23 [(0, .ref (gx_ad x 0)), (1, .int x1), (2, .int x2), (3, .int x3), (4, .int x4), (5, .int x5)] [] M0 := by
  intro x1 x2 x3 x4 x5 M0  hf
  rw [f12_standingBehind_23] at hf
  refine gr_aload_n X dX12_standingBehind_23 0 rfl rfl ?_
  refine gr_iload_n X dX12_standingBehind_24 1 rfl rfl ?_
  refine gr_iload X dX12_standingBehind_25 4 rfl ?_
  refine gr_iload X dX12_standingBehind_27 5 rfl ?_
  refine gr_iload_n X dX12_standingBehind_29 2 rfl rfl ?_
  refine gr_icmp_ne 37 X dX12_standingBehind_30 (by decide) (fun h1 => ?_) (fun h1 => ?_)
  · rw [if_pos h1] at hf
    refine gr_iconst 1 X dX12_standingBehind_33 (by decide) ?_
    refine gr_goto 38 X dX12_standingBehind_34 (by decide) ?_
    refine gr_sub (lv' := [(0, .ref (gx_ad x 0)), (1, .int x1), (2, .int x2), (3, .int x3), (5, .int x5)]) [0, 1, 2, 3, 5] rfl ?_
    exact b12_standingBehind_38 X hc hE hc6 _ _ _ _ _ _ _ _ hf
  · rw [if_neg h1] at hf
    refine gr_iconst 0 X dX12_standingBehind_37 (by decide) ?_
    refine gr_sub (lv' := [(0, .ref (gx_ad x 0)), (1, .int x1), (2, .int x2), (3, .int x3), (5, .int x5)]) [0, 1, 2, 3, 5] rfl ?_
    exact b12_standingBehind_38 X hc hE hc6 _ _ _ _ _ _ _ _ hf

def f12_standingBehind_6 : Nat → Int32 → Int32 → Int32 → Int32 → Int32 → gz_M → Option (Int32 × gz_M)
  | 0, _, _, _, _, _, _ => none
  | n + 1, x1, x2, x3, x4, x5, M0 => if x3 ≤ x5 then (some (x4, M0)) else (if x5 = x2 then (f12_standingBehind_23 (f12_standingBehind_6 n) x1 x2 x3 x4 x5 M0) else (if x4 = 0 then (some (x4, M0)) else (f12_standingBehind_23 (f12_standingBehind_6 n) x1 x2 x3 x4 x5 M0)))
theorem b12_standingBehind_6 {x : gz_X} {pf : Nat → Bool} {l : Launch} {r : Int32} {M' : gz_M} (X : gz_Ok x cX12_standingBehind RX12 6 2 gz_cfR pf l) (hc : gx_cells x ≤ (gx_R x).cells ∧ gx_slots x ≤ (gx_R x).slots) (hE : gz_EI x cX12_standingBehind .int r M') : ∀ (n : Nat) (x1 : Int32) (x2 : Int32) (x3 : Int32) (x4 : Int32) (x5 : Int32) (M0 : gz_M), f12_standingBehind_6 n x1 x2 x3 x4 x5 M0 = some (r, M') → gz_At x 6 [(0, .ref (gx_ad x 0)), (1, .int x1), (2, .int x2), (3, .int x3), (4, .int x4), (5, .int x5)] [] M0 := by
  intro n
  induction n with
  | zero =>
    intro x1 x2 x3 x4 x5 M0  hf
    rw [f12_standingBehind_6] at hf
    cases hf
  | succ n ih =>
    intro x1 x2 x3 x4 x5 M0  hf
    rw [f12_standingBehind_6] at hf
    refine gr_iload X dX12_standingBehind_6 5 rfl ?_
    refine gr_iload_n X dX12_standingBehind_8 3 rfl rfl ?_
    refine gr_icmp_ge 59 X dX12_standingBehind_9 (by decide) (fun h1 => ?_) (fun h1 => ?_)
    · rw [if_pos h1] at hf
      refine gr_iload X dX12_standingBehind_59 4 rfl ?_
      exact gz_EIu hE hf rfl dX12_standingBehind_61
    · rw [if_neg h1] at hf
      refine gr_iload X dX12_standingBehind_12 5 rfl ?_
      refine gr_iload_n X dX12_standingBehind_14 2 rfl rfl ?_
      refine gr_icmp_eq 23 X dX12_standingBehind_15 (by decide) (fun h2 => ?_) (fun h2 => ?_)
      · rw [if_pos h2] at hf
        exact b12_standingBehind_23 X hc hE ih _ _ _ _ _ _ hf
      · rw [if_neg h2] at hf
        refine gr_iload X dX12_standingBehind_18 4 rfl ?_
        refine gr_if_eq 59 X dX12_standingBehind_20 (by decide) (fun h3 => ?_) (fun h3 => ?_)
        · rw [if_pos h3] at hf
          refine gr_iload X dX12_standingBehind_59 4 rfl ?_
          exact gz_EIu hE hf rfl dX12_standingBehind_61
        · rw [if_neg h3] at hf
          exact b12_standingBehind_23 X hc hE ih _ _ _ _ _ _ hf

def f12_standingBehind (a0 : Int32) (a1 : Int32) (a2 : Int32) (M0 : gz_M) : Option (Int32 × gz_M) := f12_standingBehind_6 gz_FU a0 a1 a2 0 a1 M0
set_option maxRecDepth 100000 in
theorem c12_standingBehind {pf : Nat → Bool} {l : Launch} {r : Int32} {M0 M' : gz_M} {a0 : Int32} {a1 : Int32} {a2 : Int32} (hf : f12_standingBehind a0 a1 a2 M0 = some (r, M')) : gz_CI l gz_cfR yX12_standingBehind cX12_standingBehind 6 2 .int (fun ad => [.ref (ad 0), .int a0, .int a1, .int a2]) pf M0 r M' := by
  refine gz_ofI (by decide +kernel) (fun _ => Nat.le_of_ble_eq_true rfl) (fun x X hc hE => ?_)
  show gz_At x 0 [(0, .ref (gx_ad x 0)), (1, .int a0), (2, .int a1), (3, .int a2)] [] M0
  unfold f12_standingBehind at hf
  refine gr_iconst 0 X dX12_standingBehind_0 (by decide) ?_
  refine gr_istore [(4, .int 0), (0, .ref (gx_ad x 0)), (1, .int a0), (2, .int a1), (3, .int a2)] X dX12_standingBehind_1 rfl (by decide) rfl ?_
  refine gr_iload_n X dX12_standingBehind_3 3 rfl rfl ?_
  refine gr_istore [(5, .int a1), (4, .int 0), (0, .ref (gx_ad x 0)), (1, .int a0), (2, .int a1), (3, .int a2)] X dX12_standingBehind_4 rfl (by decide) rfl ?_
  refine gr_sub (lv' := [(0, .ref (gx_ad x 0)), (1, .int a0), (2, .int a1), (3, .int a2), (4, .int 0), (5, .int a1)]) [2, 3, 4, 5, 1, 0] rfl ?_
  exact b12_standingBehind_6 X hc hE _ _ _ _ _ _ _ hf

def f12_doesMatch (a0 : Int32) (a1 : Int32) (a2 : Int32) (M0 : gz_M) : Option (Int32 × gz_M) := if a1 = a2 then (gz_ck (gz_inb a0 8) <| gz_ck (gz_b01 (M0.1 9 a0.toNatClampNeg)) <| some (M0.1 9 a0.toNatClampNeg, M0)) else (gz_ck (gz_inb a0 8) <| gz_bd2 (f12_standingBehind (M0.1 5 a0.toNatClampNeg) a1 a2 M0) fun v5 M6 => gz_ck (gz_inb a0 8) <| if (v5 &&& (M6.1 11 a0.toNatClampNeg)) = 0 then (some (0, M6)) else (some (1, M6)))
set_option maxRecDepth 100000 in
theorem c12_doesMatch {pf : Nat → Bool} {l : Launch} {r : Int32} {M0 M' : gz_M} {a0 : Int32} {a1 : Int32} {a2 : Int32} (hf : f12_doesMatch a0 a1 a2 M0 = some (r, M')) : gz_CI l gz_cfR yX12_doesMatch cX12_doesMatch 4 3 .boolean (fun ad => [.ref (ad 0), .int a0, .int a1, .int a2]) pf M0 r M' := by
  refine gz_ofI (by decide +kernel) (fun _ => Nat.le_of_ble_eq_true rfl) (fun x X hc hE => ?_)
  show gz_At x 0 [(0, .ref (gx_ad x 0)), (1, .int a0), (2, .int a1), (3, .int a2)] [] M0
  unfold f12_doesMatch at hf
  refine gr_iload_n X dX12_doesMatch_0 2 rfl rfl ?_
  refine gr_iload_n X dX12_doesMatch_1 3 rfl rfl ?_
  refine gr_icmp_ne 14 X dX12_doesMatch_2 (by decide) (fun h1 => ?_) (fun h1 => ?_)
  · rw [if_pos h1] at hf
    refine gr_aload_n X dX12_doesMatch_5 0 rfl rfl ?_
    refine gf12_15 X wf_RX12_36 dX12_doesMatch_6 ?_
    refine gr_iload_n X dX12_doesMatch_9 1 rfl rfl ?_
    obtain ⟨h2, hf⟩ := gz_cke hf
    refine gr_zaload X gk_R9 (gz_inp h2) dX12_doesMatch_10 ?_
    refine gr_goto 41 X dX12_doesMatch_11 (by decide) ?_
    obtain ⟨h3, hf⟩ := gz_cke hf
    exact gz_EIu hE hf (gz_nb01 h3).1 dX12_doesMatch_41
  · rw [if_neg h1] at hf
    refine gr_aload_n X dX12_doesMatch_14 0 rfl rfl ?_
    refine gr_aload_n X dX12_doesMatch_15 0 rfl rfl ?_
    refine gf12_11 X wf_RX12_24 dX12_doesMatch_16 ?_
    refine gr_iload_n X dX12_doesMatch_19 1 rfl rfl ?_
    obtain ⟨h4, hf⟩ := gz_cke hf
    refine gr_iaload X gk_R5 (gz_inp h4) dX12_doesMatch_20 ?_
    refine gr_iload_n X dX12_doesMatch_21 2 rfl rfl ?_
    refine gr_iload_n X dX12_doesMatch_22 3 rfl rfl ?_
    obtain ⟨v5, M6, q7, hf⟩ := gz_bd2e hf
    refine gr_callI (asF := fun ad => [.ref (ad 0), .int (M0.1 5 a0.toNatClampNeg), .int a1, .int a2]) [.int (M0.1 5 a0.toNatClampNeg), .int a1, .int a2] X (c12_standingBehind q7) rfl wm_RX12_303 rfl (X.kd gk_R0).1 ((X.kd gk_R0).2 _ _ _ _) rfl (by decide) (by decide) rfl (Nat.le_of_ble_eq_true rfl) hc dX12_doesMatch_23 ?_
    refine gr_aload_n X dX12_doesMatch_26 0 rfl rfl ?_
    refine gf12_17 X wf_RX12_43 dX12_doesMatch_27 ?_
    refine gr_iload_n X dX12_doesMatch_30 1 rfl rfl ?_
    obtain ⟨h8, hf⟩ := gz_cke hf
    refine gr_iaload X gk_R11 (gz_inp h8) dX12_doesMatch_31 ?_
    refine gr_iand X dX12_doesMatch_32 ?_
    refine gr_if_eq 40 X dX12_doesMatch_33 (by decide) (fun h9 => ?_) (fun h9 => ?_)
    · rw [if_pos h9] at hf
      refine gr_iconst 0 X dX12_doesMatch_40 (by decide) ?_
      exact gz_EIu hE hf rfl dX12_doesMatch_41
    · rw [if_neg h9] at hf
      refine gr_iconst 1 X dX12_doesMatch_36 (by decide) ?_
      refine gr_goto 41 X dX12_doesMatch_37 (by decide) ?_
      exact gz_EIu hE hf rfl dX12_doesMatch_41

def f12_isStretch (a0 : Int32) (a1 : Int32) (M0 : gz_M) : Option (Int32 × gz_M) := if a0 < 0 then (some (0, M0)) else (if a1 < a0 then (some (0, M0)) else (gz_ck (gz_inb 81 106) <| if (M0.1 1 (81 : Int32).toNatClampNeg) < a1 then (some (0, M0)) else (some (1, M0))))
set_option maxRecDepth 100000 in
theorem c12_isStretch {pf : Nat → Bool} {l : Launch} {r : Int32} {M0 M' : gz_M} {a0 : Int32} {a1 : Int32} (hf : f12_isStretch a0 a1 M0 = some (r, M')) : gz_CI l gz_cfR yX12_isStretch cX12_isStretch 3 1 .boolean (fun ad => [.ref (ad 0), .int a0, .int a1]) pf M0 r M' := by
  refine gz_ofI (by decide +kernel) (fun _ => Nat.le_of_ble_eq_true rfl) (fun x X hc hE => ?_)
  show gz_At x 0 [(0, .ref (gx_ad x 0)), (1, .int a0), (2, .int a1)] [] M0
  unfold f12_isStretch at hf
  refine gr_iload_n X dX12_isStretch_0 1 rfl rfl ?_
  refine gr_if_lt 24 X dX12_isStretch_1 (by decide) (fun h1 => ?_) (fun h1 => ?_)
  · rw [if_pos h1] at hf
    refine gr_iconst 0 X dX12_isStretch_24 (by decide) ?_
    exact gz_EIu hE hf rfl dX12_isStretch_25
  · rw [if_neg h1] at hf
    refine gr_iload_n X dX12_isStretch_4 1 rfl rfl ?_
    refine gr_iload_n X dX12_isStretch_5 2 rfl rfl ?_
    refine gr_icmp_gt 24 X dX12_isStretch_6 (by decide) (fun h2 => ?_) (fun h2 => ?_)
    · rw [if_pos h2] at hf
      refine gr_iconst 0 X dX12_isStretch_24 (by decide) ?_
      exact gz_EIu hE hf rfl dX12_isStretch_25
    · rw [if_neg h2] at hf
      refine gr_iload_n X dX12_isStretch_9 2 rfl rfl ?_
      refine gr_aload_n X dX12_isStretch_10 0 rfl rfl ?_
      refine gf12_0 X wf_RX12_9 dX12_isStretch_11 ?_
      refine gr_bipush 81 X dX12_isStretch_14 (by decide) ?_
      obtain ⟨h3, hf⟩ := gz_cke hf
      refine gr_iaload X gk_R1 (gz_inp h3) dX12_isStretch_16 ?_
      refine gr_icmp_gt 24 X dX12_isStretch_17 (by decide) (fun h4 => ?_) (fun h4 => ?_)
      · rw [if_pos h4] at hf
        refine gr_iconst 0 X dX12_isStretch_24 (by decide) ?_
        exact gz_EIu hE hf rfl dX12_isStretch_25
      · rw [if_neg h4] at hf
        refine gr_iconst 1 X dX12_isStretch_20 (by decide) ?_
        refine gr_goto 25 X dX12_isStretch_21 (by decide) ?_
        exact gz_EIu hE hf rfl dX12_isStretch_25

def f12_matches_83 (c66 : Int32 → Int32 → gz_M → Option (Int32 × gz_M)) : Nat → Int32 → Int32 → Int32 → Int32 → gz_M → Option (Int32 × gz_M)
  | 0, _, _, _, _, _ => none
  | n + 1, x3, x4, x5, x6, M0 => if x6 < 0 then (gz_bd (f12_tell (x5.toInt64) M0) fun M2 => gz_lt (x4 + 1) fun v4 => c66 x3 v4 M2) else (gz_ck (gz_inb x6 8) <| if (M0.1 5 x6.toNatClampNeg) = x4 then (if ((gz_shr x3 x6) &&& 1) = 1 then (gz_lt (x6 + (-1)) fun v8 => f12_matches_83 c66 n x3 x4 x6 v8 M0) else (gz_lt (x6 + (-1)) fun v9 => f12_matches_83 c66 n x3 x4 x5 v9 M0)) else (gz_lt (x6 + (-1)) fun v10 => f12_matches_83 c66 n x3 x4 x5 v10 M0))
theorem b12_matches_83 {x : gz_X} {pf : Nat → Bool} {l : Launch} {r : Int32} {M' : gz_M} (X : gz_Ok x cX12_matches RX12 7 4 gz_cfR pf l) (hc : gx_cells x ≤ (gx_R x).cells ∧ gx_slots x ≤ (gx_R x).slots) (hE : gz_EI x cX12_matches .int r M') {c66 : Int32 → Int32 → gz_M → Option (Int32 × gz_M)} (hc66 : ∀ (x3 : Int32) (x4 : Int32) (M0 : gz_M), c66 x3 x4 M0 = some (r, M') → gz_At x 66 [(0, .ref (gx_ad x 0)), (3, .int x3), (4, .int x4)] [] M0) : ∀ (n : Nat) (x3 : Int32) (x4 : Int32) (x5 : Int32) (x6 : Int32) (M0 : gz_M), f12_matches_83 c66 n x3 x4 x5 x6 M0 = some (r, M') → gz_At x 83 [(0, .ref (gx_ad x 0)), (3, .int x3), (4, .int x4), (5, .int x5), (6, .int x6)] [] M0 := by
  intro n
  induction n with
  | zero =>
    intro x3 x4 x5 x6 M0  hf
    rw [f12_matches_83] at hf
    cases hf
  | succ n ih =>
    intro x3 x4 x5 x6 M0  hf
    rw [f12_matches_83] at hf
    refine gr_iload X dX12_matches_83 4 rfl ?_
    refine gr_if_lt 120 X dX12_matches_85 (by decide) (fun h1 => ?_) (fun h1 => ?_)
    · rw [if_pos h1] at hf
      refine gr_aload_n X dX12_matches_120 0 rfl rfl ?_
      refine gr_iload X dX12_matches_121 3 rfl ?_
      refine gr_i2l X dX12_matches_123 ?_
      obtain ⟨M2, q3, hf⟩ := gz_bde hf
      refine gr_callV (asF := fun ad => [.ref (ad 0), .long (x5.toInt64)]) [.long (x5.toInt64)] X (c12_tell q3) rfl wm_RX12_280 rfl (X.kd gk_R0).1 ((X.kd gk_R0).2 _ _ _ _) rfl (by decide) (by decide) rfl (Nat.le_of_ble_eq_true rfl) hc dX12_matches_124 ?_
      obtain ⟨v4, ev4, hf⟩ := gz_lte hf
      refine gr_iinc 1 [(4, .int v4), (0, .ref (gx_ad x 0)), (3, .int x3), (5, .int x5), (6, .int x6)] X dX12_matches_127 2 rfl (by decide) ev4 (by decide) rfl ?_
      refine gr_goto 66 X dX12_matches_130 (by decide) ?_
      refine gr_sub (lv' := [(0, .ref (gx_ad x 0)), (3, .int x3), (4, .int v4)]) [1, 2, 0] rfl ?_
      exact hc66 _ _ _ hf
    · rw [if_neg h1] at hf
      refine gr_aload_n X dX12_matches_88 0 rfl rfl ?_
      refine gf12_11 X wf_RX12_24 dX12_matches_89 ?_
      refine gr_iload X dX12_matches_92 4 rfl ?_
      obtain ⟨h5, hf⟩ := gz_cke hf
      refine gr_iaload X gk_R5 (gz_inp h5) dX12_matches_94 ?_
      refine gr_iload X dX12_matches_95 2 rfl ?_
      refine gr_icmp_ne 114 X dX12_matches_97 (by decide) (fun h6 => ?_) (fun h6 => ?_)
      · rw [if_pos h6] at hf
        refine gr_iload_n X dX12_matches_100 1 rfl rfl ?_
        refine gr_iload X dX12_matches_101 4 rfl ?_
        refine gr_ishr X dX12_matches_103 ?_
        refine gr_iconst 1 X dX12_matches_104 (by decide) ?_
        refine gr_iand X dX12_matches_105 ?_
        refine gr_iconst 1 X dX12_matches_106 (by decide) ?_
        refine gr_icmp_ne 114 X dX12_matches_107 (by decide) (fun h7 => ?_) (fun h7 => ?_)
        · rw [if_pos h7] at hf
          refine gr_iload X dX12_matches_110 4 rfl ?_
          refine gr_istore [(5, .int x6), (0, .ref (gx_ad x 0)), (3, .int x3), (4, .int x4), (6, .int x6)] X dX12_matches_112 rfl (by decide) rfl ?_
          obtain ⟨v8, ev8, hf⟩ := gz_lte hf
          refine gr_iinc (-1) [(6, .int v8), (5, .int x6), (0, .ref (gx_ad x 0)), (3, .int x3), (4, .int x4)] X dX12_matches_114 4 rfl (by decide) ev8 (by decide) rfl ?_
          refine gr_goto 83 X dX12_matches_117 (by decide) ?_
          refine gr_sub (lv' := [(0, .ref (gx_ad x 0)), (3, .int x3), (4, .int x4), (5, .int x6), (6, .int v8)]) [2, 3, 4, 1, 0] rfl ?_
          exact ih _ _ _ _ _ hf
        · rw [if_neg h7] at hf
          obtain ⟨v9, ev9, hf⟩ := gz_lte hf
          refine gr_iinc (-1) [(6, .int v9), (0, .ref (gx_ad x 0)), (3, .int x3), (4, .int x4), (5, .int x5)] X dX12_matches_114 4 rfl (by decide) ev9 (by decide) rfl ?_
          refine gr_goto 83 X dX12_matches_117 (by decide) ?_
          refine gr_sub (lv' := [(0, .ref (gx_ad x 0)), (3, .int x3), (4, .int x4), (5, .int x5), (6, .int v9)]) [1, 2, 3, 4, 0] rfl ?_
          exact ih _ _ _ _ _ hf
      · rw [if_neg h6] at hf
        obtain ⟨v10, ev10, hf⟩ := gz_lte hf
        refine gr_iinc (-1) [(6, .int v10), (0, .ref (gx_ad x 0)), (3, .int x3), (4, .int x4), (5, .int x5)] X dX12_matches_114 4 rfl (by decide) ev10 (by decide) rfl ?_
        refine gr_goto 83 X dX12_matches_117 (by decide) ?_
        refine gr_sub (lv' := [(0, .ref (gx_ad x 0)), (3, .int x3), (4, .int x4), (5, .int x5), (6, .int v10)]) [1, 2, 3, 4, 0] rfl ?_
        exact ih _ _ _ _ _ hf

def f12_matches_66 : Nat → Int32 → Int32 → gz_M → Option (Int32 × gz_M)
  | 0, _, _, _ => none
  | n + 1, x3, x4, M0 => if 4 ≤ x4 then (some (x3, M0)) else (gz_lt ((M0.1 0 10) - 1) fun v2 => f12_matches_83 (f12_matches_66 n) gz_FU x3 x4 (-1) v2 M0)
theorem b12_matches_66 {x : gz_X} {pf : Nat → Bool} {l : Launch} {r : Int32} {M' : gz_M} (X : gz_Ok x cX12_matches RX12 7 4 gz_cfR pf l) (hc : gx_cells x ≤ (gx_R x).cells ∧ gx_slots x ≤ (gx_R x).slots) (hE : gz_EI x cX12_matches .int r M') : ∀ (n : Nat) (x3 : Int32) (x4 : Int32) (M0 : gz_M), f12_matches_66 n x3 x4 M0 = some (r, M') → gz_At x 66 [(0, .ref (gx_ad x 0)), (3, .int x3), (4, .int x4)] [] M0 := by
  intro n
  induction n with
  | zero =>
    intro x3 x4 M0  hf
    rw [f12_matches_66] at hf
    cases hf
  | succ n ih =>
    intro x3 x4 M0  hf
    rw [f12_matches_66] at hf
    refine gr_iload X dX12_matches_66 2 rfl ?_
    refine gr_iconst 4 X dX12_matches_68 (by decide) ?_
    refine gr_icmp_ge 133 X dX12_matches_69 (by decide) (fun h1 => ?_) (fun h1 => ?_)
    · rw [if_pos h1] at hf
      refine gr_iload_n X dX12_matches_133 1 rfl rfl ?_
      exact gz_EIu hE hf rfl dX12_matches_134
    · rw [if_neg h1] at hf
      refine gr_iconst (-1) X dX12_matches_72 (by decide) ?_
      refine gr_istore [(5, .int (-1)), (0, .ref (gx_ad x 0)), (3, .int x3), (4, .int x4)] X dX12_matches_73 rfl (by decide) rfl ?_
      refine gr_aload_n X dX12_matches_75 1 rfl rfl ?_
      refine gf12_10 X wf_RX12_202 dX12_matches_76 ?_
      refine gr_iconst 1 X dX12_matches_79 (by decide) ?_
      refine gr_isub X dX12_matches_80 ?_
      obtain ⟨v2, ev2, hf⟩ := gz_lte hf
      refine gr_istore [(6, .int v2), (5, .int (-1)), (0, .ref (gx_ad x 0)), (3, .int x3), (4, .int x4)] X dX12_matches_81 ev2 (by decide) rfl ?_
      refine gr_sub (lv' := [(0, .ref (gx_ad x 0)), (3, .int x3), (4, .int x4), (5, .int (-1)), (6, .int v2)]) [2, 3, 4, 1, 0] rfl ?_
      exact b12_matches_83 X hc hE ih _ _ _ _ _ _ hf

def f12_matches_21 : Nat → Int32 → Int32 → Int32 → Int32 → gz_M → Option (Int32 × gz_M)
  | 0, _, _, _, _, _ => none
  | n + 1, x1, x2, x3, x4, M0 => if (M0.1 0 10) ≤ x4 then (gz_lt (gz_w M0 0 4 0) fun M2 => f12_matches_66 gz_FU x3 0 M2) else (gz_bd2 (f12_doesMatch x4 x1 x2 M0) fun v3 M4 => if v3 = 0 then (gz_lt (x3 ||| 0) fun v7 => gz_lt (x4 + 1) fun v8 => f12_matches_21 n x1 x2 v7 v8 M4) else (gz_lt (x3 ||| (gz_shl 1 x4)) fun v9 => gz_lt (x4 + 1) fun v10 => f12_matches_21 n x1 x2 v9 v10 M4))
theorem b12_matches_21 {x : gz_X} {pf : Nat → Bool} {l : Launch} {r : Int32} {M' : gz_M} (X : gz_Ok x cX12_matches RX12 7 4 gz_cfR pf l) (hc : gx_cells x ≤ (gx_R x).cells ∧ gx_slots x ≤ (gx_R x).slots) (hE : gz_EI x cX12_matches .int r M') : ∀ (n : Nat) (x1 : Int32) (x2 : Int32) (x3 : Int32) (x4 : Int32) (M0 : gz_M), f12_matches_21 n x1 x2 x3 x4 M0 = some (r, M') → gz_At x 21 [(0, .ref (gx_ad x 0)), (1, .int x1), (2, .int x2), (3, .int x3), (4, .int x4)] [] M0 := by
  intro n
  induction n with
  | zero =>
    intro x1 x2 x3 x4 M0  hf
    rw [f12_matches_21] at hf
    cases hf
  | succ n ih =>
    intro x1 x2 x3 x4 M0  hf
    rw [f12_matches_21] at hf
    refine gr_iload X dX12_matches_21 4 rfl ?_
    refine gr_aload_n X dX12_matches_23 0 rfl rfl ?_
    refine gf12_10 X wf_RX12_202 dX12_matches_24 ?_
    refine gr_icmp_ge 58 X dX12_matches_27 (by decide) (fun h1 => ?_) (fun h1 => ?_)
    · rw [if_pos h1] at hf
      refine gr_aload_n X dX12_matches_58 0 rfl rfl ?_
      refine gr_iconst 0 X dX12_matches_59 (by decide) ?_
      obtain ⟨M2, eM2, hf⟩ := gz_lte hf
      refine gp12_4 X wf_RX12_127 eM2 dX12_matches_60 ?_
      refine gr_iconst 0 X dX12_matches_63 (by decide) ?_
      refine gr_istore [(4, .int 0), (0, .ref (gx_ad x 0)), (1, .int x1), (2, .int x2), (3, .int x3)] X dX12_matches_64 rfl (by decide) rfl ?_
      refine gr_sub (lv' := [(0, .ref (gx_ad x 0)), (3, .int x3), (4, .int 0)]) [1, 4, 0] rfl ?_
      exact b12_matches_66 X hc hE _ _ _ _ hf
    · rw [if_neg h1] at hf
      refine gr_iload_n X dX12_matches_30 3 rfl rfl ?_
      refine gr_aload_n X dX12_matches_31 0 rfl rfl ?_
      refine gr_iload X dX12_matches_32 4 rfl ?_
      refine gr_iload_n X dX12_matches_34 1 rfl rfl ?_
      refine gr_iload_n X dX12_matches_35 2 rfl rfl ?_
      obtain ⟨v3, M4, q5, hf⟩ := gz_bd2e hf
      refine gr_callI (asF := fun ad => [.ref (ad 0), .int x4, .int x1, .int x2]) [.int x4, .int x1, .int x2] X (c12_doesMatch q5) rfl wm_RX12_310 rfl (X.kd gk_R0).1 ((X.kd gk_R0).2 _ _ _ _) rfl (by decide) (by decide) rfl (Nat.le_of_ble_eq_true rfl) hc dX12_matches_36 ?_
      refine gr_if_eq 49 X dX12_matches_39 (by decide) (fun h6 => ?_) (fun h6 => ?_)
      · rw [if_pos h6] at hf
        refine gr_iconst 0 X dX12_matches_49 (by decide) ?_
        refine gr_ior X dX12_matches_50 ?_
        obtain ⟨v7, ev7, hf⟩ := gz_lte hf
        refine gr_istore_n [(3, .int v7), (0, .ref (gx_ad x 0)), (1, .int x1), (2, .int x2), (4, .int x4)] X dX12_matches_51 ev7 rfl (by decide) rfl ?_
        obtain ⟨v8, ev8, hf⟩ := gz_lte hf
        refine gr_iinc 1 [(4, .int v8), (3, .int v7), (0, .ref (gx_ad x 0)), (1, .int x1), (2, .int x2)] X dX12_matches_52 4 rfl (by decide) ev8 (by decide) rfl ?_
        refine gr_goto 21 X dX12_matches_55 (by decide) ?_
        refine gr_sub (lv' := [(0, .ref (gx_ad x 0)), (1, .int x1), (2, .int x2), (3, .int v7), (4, .int v8)]) [2, 3, 4, 1, 0] rfl ?_
        exact ih _ _ _ _ _ hf
      · rw [if_neg h6] at hf
        refine gr_iconst 1 X dX12_matches_42 (by decide) ?_
        refine gr_iload X dX12_matches_43 4 rfl ?_
        refine gr_ishl X dX12_matches_45 ?_
        refine gr_goto 50 X dX12_matches_46 (by decide) ?_
        refine gr_ior X dX12_matches_50 ?_
        obtain ⟨v9, ev9, hf⟩ := gz_lte hf
        refine gr_istore_n [(3, .int v9), (0, .ref (gx_ad x 0)), (1, .int x1), (2, .int x2), (4, .int x4)] X dX12_matches_51 ev9 rfl (by decide) rfl ?_
        obtain ⟨v10, ev10, hf⟩ := gz_lte hf
        refine gr_iinc 1 [(4, .int v10), (3, .int v9), (0, .ref (gx_ad x 0)), (1, .int x1), (2, .int x2)] X dX12_matches_52 4 rfl (by decide) ev10 (by decide) rfl ?_
        refine gr_goto 21 X dX12_matches_55 (by decide) ?_
        refine gr_sub (lv' := [(0, .ref (gx_ad x 0)), (1, .int x1), (2, .int x2), (3, .int v9), (4, .int v10)]) [2, 3, 4, 1, 0] rfl ?_
        exact ih _ _ _ _ _ hf

def f12_matches (a0 : Int32) (a1 : Int32) (M0 : gz_M) : Option (Int32 × gz_M) := gz_lt (gz_w M0 0 5 0) fun M1 => gz_bd2 (f12_isStretch a0 a1 M1) fun v2 M3 => if v2 = 0 then (some ((-1), M3)) else (f12_matches_21 gz_FU a0 a1 0 0 M3)
set_option maxRecDepth 100000 in
theorem c12_matches {pf : Nat → Bool} {l : Launch} {r : Int32} {M0 M' : gz_M} {a0 : Int32} {a1 : Int32} (hf : f12_matches a0 a1 M0 = some (r, M')) : gz_CI l gz_cfR yX12_matches cX12_matches 7 4 .int (fun ad => [.ref (ad 0), .int a0, .int a1]) pf M0 r M' := by
  refine gz_ofI (by decide +kernel) (fun _ => Nat.le_of_ble_eq_true rfl) (fun x X hc hE => ?_)
  show gz_At x 0 [(0, .ref (gx_ad x 0)), (1, .int a0), (2, .int a1)] [] M0
  unfold f12_matches at hf
  refine gr_aload_n X dX12_matches_0 0 rfl rfl ?_
  refine gr_iconst 0 X dX12_matches_1 (by decide) ?_
  obtain ⟨M1, eM1, hf⟩ := gz_lte hf
  refine gp12_5 X wf_RX12_123 eM1 dX12_matches_2 ?_
  refine gr_aload_n X dX12_matches_5 0 rfl rfl ?_
  refine gr_iload_n X dX12_matches_6 1 rfl rfl ?_
  refine gr_iload_n X dX12_matches_7 2 rfl rfl ?_
  obtain ⟨v2, M3, q4, hf⟩ := gz_bd2e hf
  refine gr_callI (asF := fun ad => [.ref (ad 0), .int a0, .int a1]) [.int a0, .int a1] X (c12_isStretch q4) rfl wm_RX12_306 rfl (X.kd gk_R0).1 ((X.kd gk_R0).2 _ _ _ _) rfl (by decide) (by decide) rfl (Nat.le_of_ble_eq_true rfl) hc dX12_matches_8 ?_
  refine gr_if_ne 16 X dX12_matches_11 (by decide) (fun h5 => ?_) (fun h5 => ?_)
  · rw [if_pos h5] at hf
    refine gr_iconst (-1) X dX12_matches_14 (by decide) ?_
    exact gz_EIu hE hf rfl dX12_matches_15
  · rw [if_neg h5] at hf
    refine gr_iconst 0 X dX12_matches_16 (by decide) ?_
    refine gr_istore_n [(3, .int 0), (0, .ref (gx_ad x 0)), (1, .int a0), (2, .int a1)] X dX12_matches_17 rfl rfl (by decide) rfl ?_
    refine gr_iconst 0 X dX12_matches_18 (by decide) ?_
    refine gr_istore [(4, .int 0), (3, .int 0), (0, .ref (gx_ad x 0)), (1, .int a0), (2, .int a1)] X dX12_matches_19 rfl (by decide) rfl ?_
    refine gr_sub (lv' := [(0, .ref (gx_ad x 0)), (1, .int a0), (2, .int a1), (3, .int 0), (4, .int 0)]) [2, 3, 4, 1, 0] rfl ?_
    exact b12_matches_21 X hc hE _ _ _ _ _ _ hf

def f12_stands_87 (x4 : Int32) (x5 : Int32) (M0 : gz_M) : Option (Int32 × gz_M) := gz_lt (gz_w M0 0 4 0) fun M1 => gz_bd (f12_tell (x5.toInt64) M1) fun M2 => gz_bd2 (fJ_bitCount x4 M2) fun v4 M5 => some (v4, M5)
theorem b12_stands_87 {x : gz_X} {pf : Nat → Bool} {l : Launch} {r : Int32} {M' : gz_M} (X : gz_Ok x cX12_stands RX12 7 3 gz_cfR pf l) (hc : gx_cells x ≤ (gx_R x).cells ∧ gx_slots x ≤ (gx_R x).slots) (hE : gz_EI x cX12_stands .int r M') : ∀ (x4 : Int32) (x5 : Int32) (M0 : gz_M), f12_stands_87 x4 x5 M0 = some (r, M') → gz_At x 87 [(0, .ref (gx_ad x 0)), (4, .int x4), (5, .int x5)] [] M0 := by
  intro x4 x5 M0  hf
  rw [f12_stands_87] at hf
  refine gr_aload_n X dX12_stands_87 0 rfl rfl ?_
  refine gr_iconst 0 X dX12_stands_88 (by decide) ?_
  obtain ⟨M1, eM1, hf⟩ := gz_lte hf
  refine gp12_4 X wf_RX12_127 eM1 dX12_stands_89 ?_
  refine gr_aload_n X dX12_stands_92 0 rfl rfl ?_
  refine gr_iload X dX12_stands_93 2 rfl ?_
  refine gr_i2l X dX12_stands_95 ?_
  obtain ⟨M2, q3, hf⟩ := gz_bde hf
  refine gr_callV (asF := fun ad => [.ref (ad 0), .long (x5.toInt64)]) [.long (x5.toInt64)] X (c12_tell q3) rfl wm_RX12_280 rfl (X.kd gk_R0).1 ((X.kd gk_R0).2 _ _ _ _) rfl (by decide) (by decide) rfl (Nat.le_of_ble_eq_true rfl) hc dX12_stands_96 ?_
  refine gr_iload X dX12_stands_99 1 rfl ?_
  obtain ⟨v4, M5, q6, hf⟩ := gz_bd2e hf
  refine gr_callSI (asF := fun _ => [.int x4]) [.int x4] X (cJ_bitCount q6) rfl wm_RX12_313 rfl (by decide) (by decide) rfl (Nat.le_of_ble_eq_true rfl) hc dX12_stands_101 ?_
  exact gz_EIu hE hf rfl dX12_stands_104

def f12_stands_43 : Nat → Int32 → Int32 → Int32 → Int32 → gz_M → Option (Int32 × gz_M)
  | 0, _, _, _, _, _ => none
  | n + 1, x1, x4, x5, x6, M0 => if 8 ≤ x6 then (f12_stands_87 x4 x5 M0) else (if x4 = 0 then (f12_stands_87 x4 x5 M0) else (gz_bd2 (f12_step x1 x4 0 x6 M0) fun v3 M4 => if v3 = 0 then (gz_lt (x5 ||| 0) fun v7 => gz_lt (x6 + 1) fun v8 => f12_stands_43 n x1 x4 v7 v8 M4) else (gz_lt (x5 ||| (gz_shl 1 x6)) fun v9 => gz_lt (x6 + 1) fun v10 => f12_stands_43 n x1 x4 v9 v10 M4)))
theorem b12_stands_43 {x : gz_X} {pf : Nat → Bool} {l : Launch} {r : Int32} {M' : gz_M} (X : gz_Ok x cX12_stands RX12 7 3 gz_cfR pf l) (hc : gx_cells x ≤ (gx_R x).cells ∧ gx_slots x ≤ (gx_R x).slots) (hE : gz_EI x cX12_stands .int r M') : ∀ (n : Nat) (x1 : Int32) (x4 : Int32) (x5 : Int32) (x6 : Int32) (M0 : gz_M), f12_stands_43 n x1 x4 x5 x6 M0 = some (r, M') → gz_At x 43 [(0, .ref (gx_ad x 0)), (1, .int x1), (4, .int x4), (5, .int x5), (6, .int x6)] [] M0 := by
  intro n
  induction n with
  | zero =>
    intro x1 x4 x5 x6 M0  hf
    rw [f12_stands_43] at hf
    cases hf
  | succ n ih =>
    intro x1 x4 x5 x6 M0  hf
    rw [f12_stands_43] at hf
    refine gr_iload X dX12_stands_43 4 rfl ?_
    refine gr_bipush 8 X dX12_stands_45 (by decide) ?_
    refine gr_icmp_ge 87 X dX12_stands_47 (by decide) (fun h1 => ?_) (fun h1 => ?_)
    · rw [if_pos h1] at hf
      refine gr_sub (lv' := [(0, .ref (gx_ad x 0)), (4, .int x4), (5, .int x5)]) [0, 2, 3] rfl ?_
      exact b12_stands_87 X hc hE _ _ _ hf
    · rw [if_neg h1] at hf
      refine gr_iload X dX12_stands_50 2 rfl ?_
      refine gr_if_eq 87 X dX12_stands_52 (by decide) (fun h2 => ?_) (fun h2 => ?_)
      · rw [if_pos h2] at hf
        refine gr_sub (lv' := [(0, .ref (gx_ad x 0)), (4, .int x4), (5, .int x5)]) [0, 2, 3] rfl ?_
        exact b12_stands_87 X hc hE _ _ _ hf
      · rw [if_neg h2] at hf
        refine gr_iload X dX12_stands_55 3 rfl ?_
        refine gr_aload_n X dX12_stands_57 0 rfl rfl ?_
        refine gr_iload_n X dX12_stands_58 1 rfl rfl ?_
        refine gr_iload X dX12_stands_59 2 rfl ?_
        refine gr_iconst 0 X dX12_stands_61 (by decide) ?_
        refine gr_iload X dX12_stands_62 4 rfl ?_
        obtain ⟨v3, M4, q5, hf⟩ := gz_bd2e hf
        refine gr_callI (asF := fun ad => [.ref (ad 0), .int x1, .int x4, .int 0, .int x6]) [.int x1, .int x4, .int 0, .int x6] X (c12_step q5) rfl wm_RX12_250 rfl (X.kd gk_R0).1 ((X.kd gk_R0).2 _ _ _ _) rfl (by decide) (by decide) rfl (Nat.le_of_ble_eq_true rfl) hc dX12_stands_64 ?_
        refine gr_if_eq 77 X dX12_stands_67 (by decide) (fun h6 => ?_) (fun h6 => ?_)
        · rw [if_pos h6] at hf
          refine gr_iconst 0 X dX12_stands_77 (by decide) ?_
          refine gr_ior X dX12_stands_78 ?_
          obtain ⟨v7, ev7, hf⟩ := gz_lte hf
          refine gr_istore [(5, .int v7), (0, .ref (gx_ad x 0)), (1, .int x1), (4, .int x4), (6, .int x6)] X dX12_stands_79 ev7 (by decide) rfl ?_
          obtain ⟨v8, ev8, hf⟩ := gz_lte hf
          refine gr_iinc 1 [(6, .int v8), (5, .int v7), (0, .ref (gx_ad x 0)), (1, .int x1), (4, .int x4)] X dX12_stands_81 4 rfl (by decide) ev8 (by decide) rfl ?_
          refine gr_goto 43 X dX12_stands_84 (by decide) ?_
          refine gr_sub (lv' := [(0, .ref (gx_ad x 0)), (1, .int x1), (4, .int x4), (5, .int v7), (6, .int v8)]) [2, 3, 4, 1, 0] rfl ?_
          exact ih _ _ _ _ _ hf
        · rw [if_neg h6] at hf
          refine gr_iconst 1 X dX12_stands_70 (by decide) ?_
          refine gr_iload X dX12_stands_71 4 rfl ?_
          refine gr_ishl X dX12_stands_73 ?_
          refine gr_goto 78 X dX12_stands_74 (by decide) ?_
          refine gr_ior X dX12_stands_78 ?_
          obtain ⟨v9, ev9, hf⟩ := gz_lte hf
          refine gr_istore [(5, .int v9), (0, .ref (gx_ad x 0)), (1, .int x1), (4, .int x4), (6, .int x6)] X dX12_stands_79 ev9 (by decide) rfl ?_
          obtain ⟨v10, ev10, hf⟩ := gz_lte hf
          refine gr_iinc 1 [(6, .int v10), (5, .int v9), (0, .ref (gx_ad x 0)), (1, .int x1), (4, .int x4)] X dX12_stands_81 4 rfl (by decide) ev10 (by decide) rfl ?_
          refine gr_goto 43 X dX12_stands_84 (by decide) ?_
          refine gr_sub (lv' := [(0, .ref (gx_ad x 0)), (1, .int x1), (4, .int x4), (5, .int v9), (6, .int v10)]) [2, 3, 4, 1, 0] rfl ?_
          exact ih _ _ _ _ _ hf

def f12_stands (a0 : Int32) (a1 : Int32) (a2 : Int32) (M0 : gz_M) : Option (Int32 × gz_M) := gz_lt (gz_w M0 0 5 0) fun M1 => gz_bd2 (f12_isMode a0 M1) fun v2 M3 => if v2 = 0 then (some ((-1), M3)) else (gz_bd2 (f12_isStretch a1 a2 M3) fun v6 M7 => if v6 = 0 then (some ((-1), M7)) else (if a1 = a2 then (some ((-1), M7)) else (gz_bd2 (f12_standingBehind a0 a1 a2 M7) fun v11 M12 => f12_stands_43 gz_FU a0 v11 0 0 M12)))
set_option maxRecDepth 100000 in
theorem c12_stands {pf : Nat → Bool} {l : Launch} {r : Int32} {M0 M' : gz_M} {a0 : Int32} {a1 : Int32} {a2 : Int32} (hf : f12_stands a0 a1 a2 M0 = some (r, M')) : gz_CI l gz_cfR yX12_stands cX12_stands 7 3 .int (fun ad => [.ref (ad 0), .int a0, .int a1, .int a2]) pf M0 r M' := by
  refine gz_ofI (by decide +kernel) (fun _ => Nat.le_of_ble_eq_true rfl) (fun x X hc hE => ?_)
  show gz_At x 0 [(0, .ref (gx_ad x 0)), (1, .int a0), (2, .int a1), (3, .int a2)] [] M0
  unfold f12_stands at hf
  refine gr_aload_n X dX12_stands_0 0 rfl rfl ?_
  refine gr_iconst 0 X dX12_stands_1 (by decide) ?_
  obtain ⟨M1, eM1, hf⟩ := gz_lte hf
  refine gp12_5 X wf_RX12_123 eM1 dX12_stands_2 ?_
  refine gr_iload_n X dX12_stands_5 1 rfl rfl ?_
  obtain ⟨v2, M3, q4, hf⟩ := gz_bd2e hf
  refine gr_callSI (asF := fun _ => [.int a0]) [.int a0] X (c12_isMode q4) rfl wm_RX12_293 rfl (by decide) (by decide) rfl (Nat.le_of_ble_eq_true rfl) hc dX12_stands_6 ?_
  refine gr_if_eq 26 X dX12_stands_9 (by decide) (fun h5 => ?_) (fun h5 => ?_)
  · rw [if_pos h5] at hf
    refine gr_iconst (-1) X dX12_stands_26 (by decide) ?_
    exact gz_EIu hE hf rfl dX12_stands_27
  · rw [if_neg h5] at hf
    refine gr_aload_n X dX12_stands_12 0 rfl rfl ?_
    refine gr_iload_n X dX12_stands_13 2 rfl rfl ?_
    refine gr_iload_n X dX12_stands_14 3 rfl rfl ?_
    obtain ⟨v6, M7, q8, hf⟩ := gz_bd2e hf
    refine gr_callI (asF := fun ad => [.ref (ad 0), .int a1, .int a2]) [.int a1, .int a2] X (c12_isStretch q8) rfl wm_RX12_306 rfl (X.kd gk_R0).1 ((X.kd gk_R0).2 _ _ _ _) rfl (by decide) (by decide) rfl (Nat.le_of_ble_eq_true rfl) hc dX12_stands_15 ?_
    refine gr_if_eq 26 X dX12_stands_18 (by decide) (fun h9 => ?_) (fun h9 => ?_)
    · rw [if_pos h9] at hf
      refine gr_iconst (-1) X dX12_stands_26 (by decide) ?_
      exact gz_EIu hE hf rfl dX12_stands_27
    · rw [if_neg h9] at hf
      refine gr_iload_n X dX12_stands_21 2 rfl rfl ?_
      refine gr_iload_n X dX12_stands_22 3 rfl rfl ?_
      refine gr_icmp_ne 28 X dX12_stands_23 (by decide) (fun h10 => ?_) (fun h10 => ?_)
      · rw [if_pos h10] at hf
        refine gr_iconst (-1) X dX12_stands_26 (by decide) ?_
        exact gz_EIu hE hf rfl dX12_stands_27
      · rw [if_neg h10] at hf
        refine gr_aload_n X dX12_stands_28 0 rfl rfl ?_
        refine gr_iload_n X dX12_stands_29 1 rfl rfl ?_
        refine gr_iload_n X dX12_stands_30 2 rfl rfl ?_
        refine gr_iload_n X dX12_stands_31 3 rfl rfl ?_
        obtain ⟨v11, M12, q13, hf⟩ := gz_bd2e hf
        refine gr_callI (asF := fun ad => [.ref (ad 0), .int a0, .int a1, .int a2]) [.int a0, .int a1, .int a2] X (c12_standingBehind q13) rfl wm_RX12_303 rfl (X.kd gk_R0).1 ((X.kd gk_R0).2 _ _ _ _) rfl (by decide) (by decide) rfl (Nat.le_of_ble_eq_true rfl) hc dX12_stands_32 ?_
        refine gr_istore [(4, .int v11), (0, .ref (gx_ad x 0)), (1, .int a0), (2, .int a1), (3, .int a2)] X dX12_stands_35 rfl (by decide) rfl ?_
        refine gr_iconst 0 X dX12_stands_37 (by decide) ?_
        refine gr_istore [(5, .int 0), (4, .int v11), (0, .ref (gx_ad x 0)), (1, .int a0), (2, .int a1), (3, .int a2)] X dX12_stands_38 rfl (by decide) rfl ?_
        refine gr_iconst 0 X dX12_stands_40 (by decide) ?_
        refine gr_istore [(6, .int 0), (5, .int 0), (4, .int v11), (0, .ref (gx_ad x 0)), (1, .int a0), (2, .int a1), (3, .int a2)] X dX12_stands_41 rfl (by decide) rfl ?_
        refine gr_sub (lv' := [(0, .ref (gx_ad x 0)), (1, .int a0), (4, .int v11), (5, .int 0), (6, .int 0)]) [3, 4, 2, 1, 0] rfl ?_
        exact b12_stands_43 X hc hE _ _ _ _ _ _ hf

def f12_find (a0 : Int32) (a1 : Int32) (a2 : Int32) (M0 : gz_M) : Option (gz_M) := if a0 = 0 then (some M0) else (gz_ck (gz_inb a0 1024) <| if (M0.1 27 a0.toNatClampNeg) = 0 then (gz_ck (gz_inb a0 1024) <| gz_lt (gz_w M0 27 a0.toNatClampNeg (vp_nar .boolean 1)) fun M5 => gz_ck (gz_inb (M5.1 0 44) 1024) <| gz_lt (gz_w M5 24 (M5.1 0 44).toNatClampNeg a0) fun M7 => gz_ck (gz_inb (M7.1 0 44) 1024) <| gz_lt (gz_w M7 25 (M7.1 0 44).toNatClampNeg a1) fun M9 => gz_ck (gz_inb (M9.1 0 44) 1024) <| gz_lt (gz_w M9 26 (M9.1 0 44).toNatClampNeg a2) fun M11 => gz_lt (gz_w M11 0 44 ((M11.1 0 44) + 1)) fun M12 => some M12) else (some M0))
set_option maxRecDepth 100000 in
theorem c12_find {pf : Nat → Bool} {l : Launch} {M0 M' : gz_M} {a0 : Int32} {a1 : Int32} {a2 : Int32} (hf : f12_find a0 a1 a2 M0 = some M') : gz_CV l gz_cfR yX12_find cX12_find 4 1 (fun ad => [.ref (ad 0), .int a0, .int a1, .int a2]) pf M0 M' := by
  refine gz_ofV (by decide +kernel) (fun _ => Nat.le_of_ble_eq_true rfl) (fun x X hc hE => ?_)
  show gz_At x 0 [(0, .ref (gx_ad x 0)), (1, .int a0), (2, .int a1), (3, .int a2)] [] M0
  unfold f12_find at hf
  refine gr_iload_n X dX12_find_0 1 rfl rfl ?_
  refine gr_if_eq 13 X dX12_find_1 (by decide) (fun h1 => ?_) (fun h1 => ?_)
  · rw [if_pos h1] at hf
    exact gz_EVu hE hf dX12_find_13
  · rw [if_neg h1] at hf
    refine gr_aload_n X dX12_find_4 0 rfl rfl ?_
    refine gf12_43 X wf_RX12_92 dX12_find_5 ?_
    refine gr_iload_n X dX12_find_8 1 rfl rfl ?_
    obtain ⟨h2, hf⟩ := gz_cke hf
    refine gr_zaload X gk_R27 (gz_inp h2) dX12_find_9 ?_
    refine gr_if_eq 14 X dX12_find_10 (by decide) (fun h3 => ?_) (fun h3 => ?_)
    · rw [if_pos h3] at hf
      refine gr_aload_n X dX12_find_14 0 rfl rfl ?_
      refine gf12_43 X wf_RX12_92 dX12_find_15 ?_
      refine gr_iload_n X dX12_find_18 1 rfl rfl ?_
      refine gr_iconst 1 X dX12_find_19 (by decide) ?_
      obtain ⟨h4, hf⟩ := gz_cke hf
      obtain ⟨M5, eM5, hf⟩ := gz_lte hf
      refine gr_zastore X gk_R27 (gz_inp h4) eM5 dX12_find_20 ?_
      refine gr_aload_n X dX12_find_21 0 rfl rfl ?_
      refine gf12_40 X wf_RX12_83 dX12_find_22 ?_
      refine gr_aload_n X dX12_find_25 0 rfl rfl ?_
      refine gf12_44 X wf_RX12_319 dX12_find_26 ?_
      refine gr_iload_n X dX12_find_29 1 rfl rfl ?_
      obtain ⟨h6, hf⟩ := gz_cke hf
      obtain ⟨M7, eM7, hf⟩ := gz_lte hf
      refine gr_iastore X gk_R24 (gz_inp h6) eM7 dX12_find_30 ?_
      refine gr_aload_n X dX12_find_31 0 rfl rfl ?_
      refine gf12_41 X wf_RX12_86 dX12_find_32 ?_
      refine gr_aload_n X dX12_find_35 0 rfl rfl ?_
      refine gf12_44 X wf_RX12_319 dX12_find_36 ?_
      refine gr_iload_n X dX12_find_39 2 rfl rfl ?_
      obtain ⟨h8, hf⟩ := gz_cke hf
      obtain ⟨M9, eM9, hf⟩ := gz_lte hf
      refine gr_iastore X gk_R25 (gz_inp h8) eM9 dX12_find_40 ?_
      refine gr_aload_n X dX12_find_41 0 rfl rfl ?_
      refine gf12_42 X wf_RX12_89 dX12_find_42 ?_
      refine gr_aload_n X dX12_find_45 0 rfl rfl ?_
      refine gf12_44 X wf_RX12_319 dX12_find_46 ?_
      refine gr_iload_n X dX12_find_49 3 rfl rfl ?_
      obtain ⟨h10, hf⟩ := gz_cke hf
      obtain ⟨M11, eM11, hf⟩ := gz_lte hf
      refine gr_iastore X gk_R26 (gz_inp h10) eM11 dX12_find_50 ?_
      refine gr_aload_n X dX12_find_51 0 rfl rfl ?_
      refine gr_dup X dX12_find_52 rfl ?_
      refine gf12_44 X wf_RX12_319 dX12_find_53 ?_
      refine gr_iconst 1 X dX12_find_56 (by decide) ?_
      refine gr_iadd X dX12_find_57 ?_
      obtain ⟨M12, eM12, hf⟩ := gz_lte hf
      refine gp12_44 X wf_RX12_319 eM12 dX12_find_58 ?_
      exact gz_EVu hE hf dX12_find_61
    · rw [if_neg h3] at hf
      exact gz_EVu hE hf dX12_find_13

def f12_layFound_67 (c57 : Int32 → Int32 → gz_M → Option (gz_M)) : Nat → Int32 → Int32 → Int32 → gz_M → Option (gz_M)
  | 0, _, _, _, _ => none
  | n + 1, x1, x2, x3, M0 => if 8 ≤ x3 then (gz_lt (x2 + 1) fun v2 => c57 x1 v2 M0) else (gz_ck (gz_inb x2 1024) <| gz_bd2 (f12_step x1 (M0.1 24 x2.toNatClampNeg) 0 x3 M0) fun v4 M5 => gz_bd (f12_find v4 x2 x3 M5) fun M7 => gz_lt (x3 + 1) fun v9 => f12_layFound_67 c57 n x1 x2 v9 M7)
theorem b12_layFound_67 {x : gz_X} {pf : Nat → Bool} {l : Launch} {M' : gz_M} (X : gz_Ok x cX12_layFound RX12 4 2 gz_cfR pf l) (hc : gx_cells x ≤ (gx_R x).cells ∧ gx_slots x ≤ (gx_R x).slots) (hE : gz_EV x cX12_layFound M') {c57 : Int32 → Int32 → gz_M → Option (gz_M)} (hc57 : ∀ (x1 : Int32) (x2 : Int32) (M0 : gz_M), c57 x1 x2 M0 = some M' → gz_At x 57 [(0, .ref (gx_ad x 0)), (1, .int x1), (2, .int x2)] [] M0) : ∀ (n : Nat) (x1 : Int32) (x2 : Int32) (x3 : Int32) (M0 : gz_M), f12_layFound_67 c57 n x1 x2 x3 M0 = some M' → gz_At x 67 [(0, .ref (gx_ad x 0)), (1, .int x1), (2, .int x2), (3, .int x3)] [] M0 := by
  intro n
  induction n with
  | zero =>
    intro x1 x2 x3 M0  hf
    rw [f12_layFound_67] at hf
    cases hf
  | succ n ih =>
    intro x1 x2 x3 M0  hf
    rw [f12_layFound_67] at hf
    refine gr_iload_n X dX12_layFound_67 3 rfl rfl ?_
    refine gr_bipush 8 X dX12_layFound_68 (by decide) ?_
    refine gr_icmp_ge 98 X dX12_layFound_70 (by decide) (fun h1 => ?_) (fun h1 => ?_)
    · rw [if_pos h1] at hf
      obtain ⟨v2, ev2, hf⟩ := gz_lte hf
      refine gr_iinc 1 [(2, .int v2), (0, .ref (gx_ad x 0)), (1, .int x1), (3, .int x3)] X dX12_layFound_98 2 rfl (by decide) ev2 (by decide) rfl ?_
      refine gr_goto 57 X dX12_layFound_101 (by decide) ?_
      refine gr_sub (lv' := [(0, .ref (gx_ad x 0)), (1, .int x1), (2, .int v2)]) [1, 2, 0] rfl ?_
      exact hc57 _ _ _ hf
    · rw [if_neg h1] at hf
      refine gr_aload_n X dX12_layFound_73 0 rfl rfl ?_
      refine gr_aload_n X dX12_layFound_74 0 rfl rfl ?_
      refine gr_iload_n X dX12_layFound_75 1 rfl rfl ?_
      refine gr_aload_n X dX12_layFound_76 0 rfl rfl ?_
      refine gf12_40 X wf_RX12_83 dX12_layFound_77 ?_
      refine gr_iload_n X dX12_layFound_80 2 rfl rfl ?_
      obtain ⟨h3, hf⟩ := gz_cke hf
      refine gr_iaload X gk_R24 (gz_inp h3) dX12_layFound_81 ?_
      refine gr_iconst 0 X dX12_layFound_82 (by decide) ?_
      refine gr_iload_n X dX12_layFound_83 3 rfl rfl ?_
      obtain ⟨v4, M5, q6, hf⟩ := gz_bd2e hf
      refine gr_callI (asF := fun ad => [.ref (ad 0), .int x1, .int (M0.1 24 x2.toNatClampNeg), .int 0, .int x3]) [.int x1, .int (M0.1 24 x2.toNatClampNeg), .int 0, .int x3] X (c12_step q6) rfl wm_RX12_250 rfl (X.kd gk_R0).1 ((X.kd gk_R0).2 _ _ _ _) rfl (by decide) (by decide) rfl (Nat.le_of_ble_eq_true rfl) hc dX12_layFound_84 ?_
      refine gr_iload_n X dX12_layFound_87 2 rfl rfl ?_
      refine gr_iload_n X dX12_layFound_88 3 rfl rfl ?_
      obtain ⟨M7, q8, hf⟩ := gz_bde hf
      refine gr_callV (asF := fun ad => [.ref (ad 0), .int v4, .int x2, .int x3]) [.int v4, .int x2, .int x3] X (c12_find q8) rfl wm_RX12_322 rfl (X.kd gk_R0).1 ((X.kd gk_R0).2 _ _ _ _) rfl (by decide) (by decide) rfl (Nat.le_of_ble_eq_true rfl) hc dX12_layFound_89 ?_
      obtain ⟨v9, ev9, hf⟩ := gz_lte hf
      refine gr_iinc 1 [(3, .int v9), (0, .ref (gx_ad x 0)), (1, .int x1), (2, .int x2)] X dX12_layFound_92 3 rfl (by decide) ev9 (by decide) rfl ?_
      refine gr_goto 67 X dX12_layFound_95 (by decide) ?_
      refine gr_sub (lv' := [(0, .ref (gx_ad x 0)), (1, .int x1), (2, .int x2), (3, .int v9)]) [1, 2, 3, 0] rfl ?_
      exact ih _ _ _ _ hf

def f12_layFound_57 : Nat → Int32 → Int32 → gz_M → Option (gz_M)
  | 0, _, _, _ => none
  | n + 1, x1, x2, M0 => if (M0.1 0 44) ≤ x2 then (some M0) else (f12_layFound_67 (f12_layFound_57 n) gz_FU x1 x2 0 M0)
theorem b12_layFound_57 {x : gz_X} {pf : Nat → Bool} {l : Launch} {M' : gz_M} (X : gz_Ok x cX12_layFound RX12 4 2 gz_cfR pf l) (hc : gx_cells x ≤ (gx_R x).cells ∧ gx_slots x ≤ (gx_R x).slots) (hE : gz_EV x cX12_layFound M') : ∀ (n : Nat) (x1 : Int32) (x2 : Int32) (M0 : gz_M), f12_layFound_57 n x1 x2 M0 = some M' → gz_At x 57 [(0, .ref (gx_ad x 0)), (1, .int x1), (2, .int x2)] [] M0 := by
  intro n
  induction n with
  | zero =>
    intro x1 x2 M0  hf
    rw [f12_layFound_57] at hf
    cases hf
  | succ n ih =>
    intro x1 x2 M0  hf
    rw [f12_layFound_57] at hf
    refine gr_iload_n X dX12_layFound_57 2 rfl rfl ?_
    refine gr_aload_n X dX12_layFound_58 0 rfl rfl ?_
    refine gf12_44 X wf_RX12_319 dX12_layFound_59 ?_
    refine gr_icmp_ge 104 X dX12_layFound_62 (by decide) (fun h1 => ?_) (fun h1 => ?_)
    · rw [if_pos h1] at hf
      exact gz_EVu hE hf dX12_layFound_104
    · rw [if_neg h1] at hf
      refine gr_iconst 0 X dX12_layFound_65 (by decide) ?_
      refine gr_istore_n [(3, .int 0), (0, .ref (gx_ad x 0)), (1, .int x1), (2, .int x2)] X dX12_layFound_66 rfl rfl (by decide) rfl ?_
      refine gr_sub (lv' := [(0, .ref (gx_ad x 0)), (1, .int x1), (2, .int x2), (3, .int 0)]) [1, 2, 3, 0] rfl ?_
      exact b12_layFound_67 X hc hE ih _ _ _ _ _ hf

def f12_layFound_29 : Nat → Int32 → Int32 → gz_M → Option (gz_M)
  | 0, _, _, _ => none
  | n + 1, x1, x2, M0 => if 8 ≤ x2 then (f12_layFound_57 gz_FU x1 0 M0) else (gz_bd2 (f12_step x1 0 1 x2 M0) fun v2 M3 => gz_bd (f12_find v2 (-1) x2 M3) fun M5 => gz_lt (x2 + 1) fun v7 => f12_layFound_29 n x1 v7 M5)
theorem b12_layFound_29 {x : gz_X} {pf : Nat → Bool} {l : Launch} {M' : gz_M} (X : gz_Ok x cX12_layFound RX12 4 2 gz_cfR pf l) (hc : gx_cells x ≤ (gx_R x).cells ∧ gx_slots x ≤ (gx_R x).slots) (hE : gz_EV x cX12_layFound M') : ∀ (n : Nat) (x1 : Int32) (x2 : Int32) (M0 : gz_M), f12_layFound_29 n x1 x2 M0 = some M' → gz_At x 29 [(0, .ref (gx_ad x 0)), (1, .int x1), (2, .int x2)] [] M0 := by
  intro n
  induction n with
  | zero =>
    intro x1 x2 M0  hf
    rw [f12_layFound_29] at hf
    cases hf
  | succ n ih =>
    intro x1 x2 M0  hf
    rw [f12_layFound_29] at hf
    refine gr_iload_n X dX12_layFound_29 2 rfl rfl ?_
    refine gr_bipush 8 X dX12_layFound_30 (by decide) ?_
    refine gr_icmp_ge 55 X dX12_layFound_32 (by decide) (fun h1 => ?_) (fun h1 => ?_)
    · rw [if_pos h1] at hf
      refine gr_iconst 0 X dX12_layFound_55 (by decide) ?_
      refine gr_istore_n [(2, .int 0), (0, .ref (gx_ad x 0)), (1, .int x1)] X dX12_layFound_56 rfl rfl (by decide) rfl ?_
      refine gr_sub (lv' := [(0, .ref (gx_ad x 0)), (1, .int x1), (2, .int 0)]) [1, 2, 0] rfl ?_
      exact b12_layFound_57 X hc hE _ _ _ _ hf
    · rw [if_neg h1] at hf
      refine gr_aload_n X dX12_layFound_35 0 rfl rfl ?_
      refine gr_aload_n X dX12_layFound_36 0 rfl rfl ?_
      refine gr_iload_n X dX12_layFound_37 1 rfl rfl ?_
      refine gr_iconst 0 X dX12_layFound_38 (by decide) ?_
      refine gr_iconst 1 X dX12_layFound_39 (by decide) ?_
      refine gr_iload_n X dX12_layFound_40 2 rfl rfl ?_
      obtain ⟨v2, M3, q4, hf⟩ := gz_bd2e hf
      refine gr_callI (asF := fun ad => [.ref (ad 0), .int x1, .int 0, .int 1, .int x2]) [.int x1, .int 0, .int 1, .int x2] X (c12_step q4) rfl wm_RX12_250 rfl (X.kd gk_R0).1 ((X.kd gk_R0).2 _ _ _ _) rfl (by decide) (by decide) rfl (Nat.le_of_ble_eq_true rfl) hc dX12_layFound_41 ?_
      refine gr_iconst (-1) X dX12_layFound_44 (by decide) ?_
      refine gr_iload_n X dX12_layFound_45 2 rfl rfl ?_
      obtain ⟨M5, q6, hf⟩ := gz_bde hf
      refine gr_callV (asF := fun ad => [.ref (ad 0), .int v2, .int (-1), .int x2]) [.int v2, .int (-1), .int x2] X (c12_find q6) rfl wm_RX12_322 rfl (X.kd gk_R0).1 ((X.kd gk_R0).2 _ _ _ _) rfl (by decide) (by decide) rfl (Nat.le_of_ble_eq_true rfl) hc dX12_layFound_46 ?_
      obtain ⟨v7, ev7, hf⟩ := gz_lte hf
      refine gr_iinc 1 [(2, .int v7), (0, .ref (gx_ad x 0)), (1, .int x1)] X dX12_layFound_49 2 rfl (by decide) ev7 (by decide) rfl ?_
      refine gr_goto 29 X dX12_layFound_52 (by decide) ?_
      refine gr_sub (lv' := [(0, .ref (gx_ad x 0)), (1, .int x1), (2, .int v7)]) [1, 2, 0] rfl ?_
      exact ih _ _ _ hf

def f12_layFound_7 : Nat → Int32 → Int32 → gz_M → Option (gz_M)
  | 0, _, _, _ => none
  | n + 1, x1, x2, M0 => if 1024 ≤ x2 then (f12_layFound_29 gz_FU x1 0 M0) else (gz_ck (gz_inb x2 1024) <| gz_lt (gz_w M0 27 x2.toNatClampNeg (vp_nar .boolean 0)) fun M3 => gz_lt (x2 + 1) fun v4 => f12_layFound_7 n x1 v4 M3)
theorem b12_layFound_7 {x : gz_X} {pf : Nat → Bool} {l : Launch} {M' : gz_M} (X : gz_Ok x cX12_layFound RX12 4 2 gz_cfR pf l) (hc : gx_cells x ≤ (gx_R x).cells ∧ gx_slots x ≤ (gx_R x).slots) (hE : gz_EV x cX12_layFound M') : ∀ (n : Nat) (x1 : Int32) (x2 : Int32) (M0 : gz_M), f12_layFound_7 n x1 x2 M0 = some M' → gz_At x 7 [(0, .ref (gx_ad x 0)), (1, .int x1), (2, .int x2)] [] M0 := by
  intro n
  induction n with
  | zero =>
    intro x1 x2 M0  hf
    rw [f12_layFound_7] at hf
    cases hf
  | succ n ih =>
    intro x1 x2 M0  hf
    rw [f12_layFound_7] at hf
    refine gr_iload_n X dX12_layFound_7 2 rfl rfl ?_
    refine gr_sipush 1024 X dX12_layFound_8 (by decide) ?_
    refine gr_icmp_ge 27 X dX12_layFound_11 (by decide) (fun h1 => ?_) (fun h1 => ?_)
    · rw [if_pos h1] at hf
      refine gr_iconst 0 X dX12_layFound_27 (by decide) ?_
      refine gr_istore_n [(2, .int 0), (0, .ref (gx_ad x 0)), (1, .int x1)] X dX12_layFound_28 rfl rfl (by decide) rfl ?_
      refine gr_sub (lv' := [(0, .ref (gx_ad x 0)), (1, .int x1), (2, .int 0)]) [1, 2, 0] rfl ?_
      exact b12_layFound_29 X hc hE _ _ _ _ hf
    · rw [if_neg h1] at hf
      refine gr_aload_n X dX12_layFound_14 0 rfl rfl ?_
      refine gf12_43 X wf_RX12_92 dX12_layFound_15 ?_
      refine gr_iload_n X dX12_layFound_18 2 rfl rfl ?_
      refine gr_iconst 0 X dX12_layFound_19 (by decide) ?_
      obtain ⟨h2, hf⟩ := gz_cke hf
      obtain ⟨M3, eM3, hf⟩ := gz_lte hf
      refine gr_zastore X gk_R27 (gz_inp h2) eM3 dX12_layFound_20 ?_
      obtain ⟨v4, ev4, hf⟩ := gz_lte hf
      refine gr_iinc 1 [(2, .int v4), (0, .ref (gx_ad x 0)), (1, .int x1)] X dX12_layFound_21 2 rfl (by decide) ev4 (by decide) rfl ?_
      refine gr_goto 7 X dX12_layFound_24 (by decide) ?_
      refine gr_sub (lv' := [(0, .ref (gx_ad x 0)), (1, .int x1), (2, .int v4)]) [1, 2, 0] rfl ?_
      exact ih _ _ _ hf

def f12_layFound (a0 : Int32) (M0 : gz_M) : Option (gz_M) := gz_lt (gz_w M0 0 44 0) fun M1 => f12_layFound_7 gz_FU a0 0 M1
set_option maxRecDepth 100000 in
theorem c12_layFound {pf : Nat → Bool} {l : Launch} {M0 M' : gz_M} {a0 : Int32} (hf : f12_layFound a0 M0 = some M') : gz_CV l gz_cfR yX12_layFound cX12_layFound 4 2 (fun ad => [.ref (ad 0), .int a0]) pf M0 M' := by
  refine gz_ofV (by decide +kernel) (fun _ => Nat.le_of_ble_eq_true rfl) (fun x X hc hE => ?_)
  show gz_At x 0 [(0, .ref (gx_ad x 0)), (1, .int a0)] [] M0
  unfold f12_layFound at hf
  refine gr_aload_n X dX12_layFound_0 0 rfl rfl ?_
  refine gr_iconst 0 X dX12_layFound_1 (by decide) ?_
  obtain ⟨M1, eM1, hf⟩ := gz_lte hf
  refine gp12_44 X wf_RX12_319 eM1 dX12_layFound_2 ?_
  refine gr_iconst 0 X dX12_layFound_5 (by decide) ?_
  refine gr_istore_n [(2, .int 0), (0, .ref (gx_ad x 0)), (1, .int a0)] X dX12_layFound_6 rfl rfl (by decide) rfl ?_
  refine gr_sub (lv' := [(0, .ref (gx_ad x 0)), (1, .int a0), (2, .int 0)]) [1, 2, 0] rfl ?_
  exact b12_layFound_7 X hc hE _ _ _ _ hf

def f12_states_23 : Nat → Int32 → Int32 → Int32 → gz_M → Option (Int32 × gz_M)
  | 0, _, _, _, _ => none
  | n + 1, x1, x2, x3, M0 => if (M0.1 0 44) ≤ x3 then (gz_lt (gz_w M0 0 4 0) fun M2 => gz_bd (f12_tell (x2.toInt64) M2) fun M3 => some (M3.1 0 44, M3)) else (gz_ck (gz_inb x3 1024) <| gz_bd2 (f12_winner x1 (M0.1 24 x3.toNatClampNeg) M0) fun v6 M7 => if v6 = (-1) then (gz_lt (x2 + 0) fun v10 => gz_lt (x3 + 1) fun v11 => f12_states_23 n x1 v10 v11 M7) else (gz_lt (x2 + 1) fun v12 => gz_lt (x3 + 1) fun v13 => f12_states_23 n x1 v12 v13 M7))
theorem b12_states_23 {x : gz_X} {pf : Nat → Bool} {l : Launch} {r : Int32} {M' : gz_M} (X : gz_Ok x cX12_states RX12 4 3 gz_cfR pf l) (hc : gx_cells x ≤ (gx_R x).cells ∧ gx_slots x ≤ (gx_R x).slots) (hE : gz_EI x cX12_states .int r M') : ∀ (n : Nat) (x1 : Int32) (x2 : Int32) (x3 : Int32) (M0 : gz_M), f12_states_23 n x1 x2 x3 M0 = some (r, M') → gz_At x 23 [(0, .ref (gx_ad x 0)), (1, .int x1), (2, .int x2), (3, .int x3)] [] M0 := by
  intro n
  induction n with
  | zero =>
    intro x1 x2 x3 M0  hf
    rw [f12_states_23] at hf
    cases hf
  | succ n ih =>
    intro x1 x2 x3 M0  hf
    rw [f12_states_23] at hf
    refine gr_iload_n X dX12_states_23 3 rfl rfl ?_
    refine gr_aload_n X dX12_states_24 0 rfl rfl ?_
    refine gf12_44 X wf_RX12_319 dX12_states_25 ?_
    refine gr_icmp_ge 60 X dX12_states_28 (by decide) (fun h1 => ?_) (fun h1 => ?_)
    · rw [if_pos h1] at hf
      refine gr_aload_n X dX12_states_60 0 rfl rfl ?_
      refine gr_iconst 0 X dX12_states_61 (by decide) ?_
      obtain ⟨M2, eM2, hf⟩ := gz_lte hf
      refine gp12_4 X wf_RX12_127 eM2 dX12_states_62 ?_
      refine gr_aload_n X dX12_states_65 0 rfl rfl ?_
      refine gr_iload_n X dX12_states_66 2 rfl rfl ?_
      refine gr_i2l X dX12_states_67 ?_
      obtain ⟨M3, q4, hf⟩ := gz_bde hf
      refine gr_callV (asF := fun ad => [.ref (ad 0), .long (x2.toInt64)]) [.long (x2.toInt64)] X (c12_tell q4) rfl wm_RX12_280 rfl (X.kd gk_R0).1 ((X.kd gk_R0).2 _ _ _ _) rfl (by decide) (by decide) rfl (Nat.le_of_ble_eq_true rfl) hc dX12_states_68 ?_
      refine gr_aload_n X dX12_states_71 0 rfl rfl ?_
      refine gf12_44 X wf_RX12_319 dX12_states_72 ?_
      exact gz_EIu hE hf rfl dX12_states_75
    · rw [if_neg h1] at hf
      refine gr_iload_n X dX12_states_31 2 rfl rfl ?_
      refine gr_aload_n X dX12_states_32 0 rfl rfl ?_
      refine gr_iload_n X dX12_states_33 1 rfl rfl ?_
      refine gr_aload_n X dX12_states_34 0 rfl rfl ?_
      refine gf12_40 X wf_RX12_83 dX12_states_35 ?_
      refine gr_iload_n X dX12_states_38 3 rfl rfl ?_
      obtain ⟨h5, hf⟩ := gz_cke hf
      refine gr_iaload X gk_R24 (gz_inp h5) dX12_states_39 ?_
      obtain ⟨v6, M7, q8, hf⟩ := gz_bd2e hf
      refine gr_callI (asF := fun ad => [.ref (ad 0), .int x1, .int (M0.1 24 x3.toNatClampNeg)]) [.int x1, .int (M0.1 24 x3.toNatClampNeg)] X (c12_winner q8) rfl wm_RX12_258 rfl (X.kd gk_R0).1 ((X.kd gk_R0).2 _ _ _ _) rfl (by decide) (by decide) rfl (Nat.le_of_ble_eq_true rfl) hc dX12_states_40 ?_
      refine gr_iconst (-1) X dX12_states_43 (by decide) ?_
      refine gr_icmp_eq 51 X dX12_states_44 (by decide) (fun h9 => ?_) (fun h9 => ?_)
      · rw [if_pos h9] at hf
        refine gr_iconst 0 X dX12_states_51 (by decide) ?_
        refine gr_iadd X dX12_states_52 ?_
        obtain ⟨v10, ev10, hf⟩ := gz_lte hf
        refine gr_istore_n [(2, .int v10), (0, .ref (gx_ad x 0)), (1, .int x1), (3, .int x3)] X dX12_states_53 ev10 rfl (by decide) rfl ?_
        obtain ⟨v11, ev11, hf⟩ := gz_lte hf
        refine gr_iinc 1 [(3, .int v11), (2, .int v10), (0, .ref (gx_ad x 0)), (1, .int x1)] X dX12_states_54 3 rfl (by decide) ev11 (by decide) rfl ?_
        refine gr_goto 23 X dX12_states_57 (by decide) ?_
        refine gr_sub (lv' := [(0, .ref (gx_ad x 0)), (1, .int x1), (2, .int v10), (3, .int v11)]) [2, 3, 1, 0] rfl ?_
        exact ih _ _ _ _ hf
      · rw [if_neg h9] at hf
        refine gr_iconst 1 X dX12_states_47 (by decide) ?_
        refine gr_goto 52 X dX12_states_48 (by decide) ?_
        refine gr_iadd X dX12_states_52 ?_
        obtain ⟨v12, ev12, hf⟩ := gz_lte hf
        refine gr_istore_n [(2, .int v12), (0, .ref (gx_ad x 0)), (1, .int x1), (3, .int x3)] X dX12_states_53 ev12 rfl (by decide) rfl ?_
        obtain ⟨v13, ev13, hf⟩ := gz_lte hf
        refine gr_iinc 1 [(3, .int v13), (2, .int v12), (0, .ref (gx_ad x 0)), (1, .int x1)] X dX12_states_54 3 rfl (by decide) ev13 (by decide) rfl ?_
        refine gr_goto 23 X dX12_states_57 (by decide) ?_
        refine gr_sub (lv' := [(0, .ref (gx_ad x 0)), (1, .int x1), (2, .int v12), (3, .int v13)]) [2, 3, 1, 0] rfl ?_
        exact ih _ _ _ _ hf

def f12_states (a0 : Int32) (M0 : gz_M) : Option (Int32 × gz_M) := gz_lt (gz_w M0 0 5 0) fun M1 => gz_bd2 (f12_isMode a0 M1) fun v2 M3 => if v2 = 0 then (some ((-1), M3)) else (gz_bd (f12_layFound a0 M3) fun M6 => f12_states_23 gz_FU a0 0 0 M6)
set_option maxRecDepth 100000 in
theorem c12_states {pf : Nat → Bool} {l : Launch} {r : Int32} {M0 M' : gz_M} {a0 : Int32} (hf : f12_states a0 M0 = some (r, M')) : gz_CI l gz_cfR yX12_states cX12_states 4 3 .int (fun ad => [.ref (ad 0), .int a0]) pf M0 r M' := by
  refine gz_ofI (by decide +kernel) (fun _ => Nat.le_of_ble_eq_true rfl) (fun x X hc hE => ?_)
  show gz_At x 0 [(0, .ref (gx_ad x 0)), (1, .int a0)] [] M0
  unfold f12_states at hf
  refine gr_aload_n X dX12_states_0 0 rfl rfl ?_
  refine gr_iconst 0 X dX12_states_1 (by decide) ?_
  obtain ⟨M1, eM1, hf⟩ := gz_lte hf
  refine gp12_5 X wf_RX12_123 eM1 dX12_states_2 ?_
  refine gr_iload_n X dX12_states_5 1 rfl rfl ?_
  obtain ⟨v2, M3, q4, hf⟩ := gz_bd2e hf
  refine gr_callSI (asF := fun _ => [.int a0]) [.int a0] X (c12_isMode q4) rfl wm_RX12_293 rfl (by decide) (by decide) rfl (Nat.le_of_ble_eq_true rfl) hc dX12_states_6 ?_
  refine gr_if_ne 14 X dX12_states_9 (by decide) (fun h5 => ?_) (fun h5 => ?_)
  · rw [if_pos h5] at hf
    refine gr_iconst (-1) X dX12_states_12 (by decide) ?_
    exact gz_EIu hE hf rfl dX12_states_13
  · rw [if_neg h5] at hf
    refine gr_aload_n X dX12_states_14 0 rfl rfl ?_
    refine gr_iload_n X dX12_states_15 1 rfl rfl ?_
    obtain ⟨M6, q7, hf⟩ := gz_bde hf
    refine gr_callV (asF := fun ad => [.ref (ad 0), .int a0]) [.int a0] X (c12_layFound q7) rfl wm_RX12_325 rfl (X.kd gk_R0).1 ((X.kd gk_R0).2 _ _ _ _) rfl (by decide) (by decide) rfl (Nat.le_of_ble_eq_true rfl) hc dX12_states_16 ?_
    refine gr_iconst 0 X dX12_states_19 (by decide) ?_
    refine gr_istore_n [(2, .int 0), (0, .ref (gx_ad x 0)), (1, .int a0)] X dX12_states_20 rfl rfl (by decide) rfl ?_
    refine gr_iconst 0 X dX12_states_21 (by decide) ?_
    refine gr_istore_n [(3, .int 0), (2, .int 0), (0, .ref (gx_ad x 0)), (1, .int a0)] X dX12_states_22 rfl rfl (by decide) rfl ?_
    refine gr_sub (lv' := [(0, .ref (gx_ad x 0)), (1, .int a0), (2, .int 0), (3, .int 0)]) [2, 3, 1, 0] rfl ?_
    exact b12_states_23 X hc hE _ _ _ _ _ hf

def f12_tellRow_54 : Nat → Int32 → Int32 → gz_M → Option (Int32 × gz_M)
  | 0, _, _, _ => none
  | n + 1, x2, x3, M0 => if x3 < 0 then (some (x2, M0)) else (gz_ck (gz_inb x3 1024) <| gz_bd (f12_tell ((M0.1 28 x3.toNatClampNeg).toInt64) M0) fun M3 => gz_lt (x3 + (-1)) fun v5 => f12_tellRow_54 n x2 v5 M3)
theorem b12_tellRow_54 {x : gz_X} {pf : Nat → Bool} {l : Launch} {r : Int32} {M' : gz_M} (X : gz_Ok x cX12_tellRow RX12 4 2 gz_cfR pf l) (hc : gx_cells x ≤ (gx_R x).cells ∧ gx_slots x ≤ (gx_R x).slots) (hE : gz_EI x cX12_tellRow .int r M') : ∀ (n : Nat) (x2 : Int32) (x3 : Int32) (M0 : gz_M), f12_tellRow_54 n x2 x3 M0 = some (r, M') → gz_At x 54 [(0, .ref (gx_ad x 0)), (2, .int x2), (3, .int x3)] [] M0 := by
  intro n
  induction n with
  | zero =>
    intro x2 x3 M0  hf
    rw [f12_tellRow_54] at hf
    cases hf
  | succ n ih =>
    intro x2 x3 M0  hf
    rw [f12_tellRow_54] at hf
    refine gr_iload_n X dX12_tellRow_54 2 rfl rfl ?_
    refine gr_if_lt 75 X dX12_tellRow_55 (by decide) (fun h1 => ?_) (fun h1 => ?_)
    · rw [if_pos h1] at hf
      refine gr_iload_n X dX12_tellRow_75 1 rfl rfl ?_
      exact gz_EIu hE hf rfl dX12_tellRow_76
    · rw [if_neg h1] at hf
      refine gr_aload_n X dX12_tellRow_58 0 rfl rfl ?_
      refine gr_aload_n X dX12_tellRow_59 0 rfl rfl ?_
      refine gf12_45 X wf_RX12_95 dX12_tellRow_60 ?_
      refine gr_iload_n X dX12_tellRow_63 2 rfl rfl ?_
      obtain ⟨h2, hf⟩ := gz_cke hf
      refine gr_iaload X gk_R28 (gz_inp h2) dX12_tellRow_64 ?_
      refine gr_i2l X dX12_tellRow_65 ?_
      obtain ⟨M3, q4, hf⟩ := gz_bde hf
      refine gr_callV (asF := fun ad => [.ref (ad 0), .long ((M0.1 28 x3.toNatClampNeg).toInt64)]) [.long ((M0.1 28 x3.toNatClampNeg).toInt64)] X (c12_tell q4) rfl wm_RX12_280 rfl (X.kd gk_R0).1 ((X.kd gk_R0).2 _ _ _ _) rfl (by decide) (by decide) rfl (Nat.le_of_ble_eq_true rfl) hc dX12_tellRow_66 ?_
      obtain ⟨v5, ev5, hf⟩ := gz_lte hf
      refine gr_iinc (-1) [(3, .int v5), (0, .ref (gx_ad x 0)), (2, .int x2)] X dX12_tellRow_69 2 rfl (by decide) ev5 (by decide) rfl ?_
      refine gr_goto 54 X dX12_tellRow_72 (by decide) ?_
      refine gr_sub (lv' := [(0, .ref (gx_ad x 0)), (2, .int x2), (3, .int v5)]) [1, 2, 0] rfl ?_
      exact ih _ _ _ hf

def f12_tellRow_4 : Nat → Int32 → Int32 → gz_M → Option (Int32 × gz_M)
  | 0, _, _, _ => none
  | n + 1, x2, x3, M0 => if x3 = (-1) then (if x2 ≤ 64 then (gz_lt (gz_w M0 0 4 0) fun M3 => gz_lt (x2 - 1) fun v4 => f12_tellRow_54 gz_FU x2 v4 M3) else (some (x2, M0))) else (gz_lt (x2 + 1) fun v5 => gz_ck (gz_inb x3 1024) <| gz_ck (gz_inb x2 1024) <| gz_lt (gz_w M0 28 x2.toNatClampNeg (M0.1 26 x3.toNatClampNeg)) fun M8 => gz_ck (gz_inb x3 1024) <| gz_lt (M8.1 25 x3.toNatClampNeg) fun v10 => f12_tellRow_4 n v5 v10 M8)
theorem b12_tellRow_4 {x : gz_X} {pf : Nat → Bool} {l : Launch} {r : Int32} {M' : gz_M} (X : gz_Ok x cX12_tellRow RX12 4 2 gz_cfR pf l) (hc : gx_cells x ≤ (gx_R x).cells ∧ gx_slots x ≤ (gx_R x).slots) (hE : gz_EI x cX12_tellRow .int r M') : ∀ (n : Nat) (x2 : Int32) (x3 : Int32) (M0 : gz_M), f12_tellRow_4 n x2 x3 M0 = some (r, M') → gz_At x 4 [(0, .ref (gx_ad x 0)), (2, .int x2), (3, .int x3)] [] M0 := by
  intro n
  induction n with
  | zero =>
    intro x2 x3 M0  hf
    rw [f12_tellRow_4] at hf
    cases hf
  | succ n ih =>
    intro x2 x3 M0  hf
    rw [f12_tellRow_4] at hf
    refine gr_iload_n X dX12_tellRow_4 2 rfl rfl ?_
    refine gr_iconst (-1) X dX12_tellRow_5 (by decide) ?_
    refine gr_icmp_eq 34 X dX12_tellRow_6 (by decide) (fun h1 => ?_) (fun h1 => ?_)
    · rw [if_pos h1] at hf
      refine gr_iload_n X dX12_tellRow_34 1 rfl rfl ?_
      refine gr_aload_n X dX12_tellRow_35 0 rfl rfl ?_
      refine gf12_3 X wf_RX12_17 dX12_tellRow_36 ?_
      refine gr_arraylengthJ X gk_R3 (64) (by decide) dX12_tellRow_39 ?_
      refine gr_icmp_le 45 X dX12_tellRow_40 (by decide) (fun h2 => ?_) (fun h2 => ?_)
      · rw [if_pos h2] at hf
        refine gr_aload_n X dX12_tellRow_45 0 rfl rfl ?_
        refine gr_iconst 0 X dX12_tellRow_46 (by decide) ?_
        obtain ⟨M3, eM3, hf⟩ := gz_lte hf
        refine gp12_4 X wf_RX12_127 eM3 dX12_tellRow_47 ?_
        refine gr_iload_n X dX12_tellRow_50 1 rfl rfl ?_
        refine gr_iconst 1 X dX12_tellRow_51 (by decide) ?_
        refine gr_isub X dX12_tellRow_52 ?_
        obtain ⟨v4, ev4, hf⟩ := gz_lte hf
        refine gr_istore_n [(3, .int v4), (0, .ref (gx_ad x 0)), (2, .int x2)] X dX12_tellRow_53 ev4 rfl (by decide) rfl ?_
        refine gr_sub (lv' := [(0, .ref (gx_ad x 0)), (2, .int x2), (3, .int v4)]) [1, 2, 0] rfl ?_
        exact b12_tellRow_54 X hc hE _ _ _ _ hf
      · rw [if_neg h2] at hf
        refine gr_iload_n X dX12_tellRow_43 1 rfl rfl ?_
        exact gz_EIu hE hf rfl dX12_tellRow_44
    · rw [if_neg h1] at hf
      refine gr_aload_n X dX12_tellRow_9 0 rfl rfl ?_
      refine gf12_45 X wf_RX12_95 dX12_tellRow_10 ?_
      refine gr_iload_n X dX12_tellRow_13 1 rfl rfl ?_
      obtain ⟨v5, ev5, hf⟩ := gz_lte hf
      refine gr_iinc 1 [(2, .int v5), (0, .ref (gx_ad x 0)), (3, .int x3)] X dX12_tellRow_14 1 rfl (by decide) ev5 (by decide) rfl ?_
      refine gr_aload_n X dX12_tellRow_17 1 rfl rfl ?_
      refine gf12_42 X wf_RX12_89 dX12_tellRow_18 ?_
      refine gr_iload_n X dX12_tellRow_21 2 rfl rfl ?_
      obtain ⟨h6, hf⟩ := gz_cke hf
      refine gr_iaload X gk_R26 (gz_inp h6) dX12_tellRow_22 ?_
      obtain ⟨h7, hf⟩ := gz_cke hf
      obtain ⟨M8, eM8, hf⟩ := gz_lte hf
      refine gr_iastore X gk_R28 (gz_inp h7) eM8 dX12_tellRow_23 ?_
      refine gr_aload_n X dX12_tellRow_24 1 rfl rfl ?_
      refine gf12_41 X wf_RX12_86 dX12_tellRow_25 ?_
      refine gr_iload_n X dX12_tellRow_28 2 rfl rfl ?_
      obtain ⟨h9, hf⟩ := gz_cke hf
      refine gr_iaload X gk_R25 (gz_inp h9) dX12_tellRow_29 ?_
      obtain ⟨v10, ev10, hf⟩ := gz_lte hf
      refine gr_istore_n [(3, .int v10), (2, .int v5), (0, .ref (gx_ad x 0))] X dX12_tellRow_30 ev10 rfl (by decide) rfl ?_
      refine gr_goto 4 X dX12_tellRow_31 (by decide) ?_
      refine gr_sub (lv' := [(0, .ref (gx_ad x 0)), (2, .int v5), (3, .int v10)]) [2, 1, 0] rfl ?_
      exact ih _ _ _ hf

def f12_tellRow (a0 : Int32) (M0 : gz_M) : Option (Int32 × gz_M) := f12_tellRow_4 gz_FU 0 a0 M0
set_option maxRecDepth 100000 in
theorem c12_tellRow {pf : Nat → Bool} {l : Launch} {r : Int32} {M0 M' : gz_M} {a0 : Int32} (hf : f12_tellRow a0 M0 = some (r, M')) : gz_CI l gz_cfR yX12_tellRow cX12_tellRow 4 2 .int (fun ad => [.ref (ad 0), .int a0]) pf M0 r M' := by
  refine gz_ofI (by decide +kernel) (fun _ => Nat.le_of_ble_eq_true rfl) (fun x X hc hE => ?_)
  show gz_At x 0 [(0, .ref (gx_ad x 0)), (1, .int a0)] [] M0
  unfold f12_tellRow at hf
  refine gr_iconst 0 X dX12_tellRow_0 (by decide) ?_
  refine gr_istore_n [(2, .int 0), (0, .ref (gx_ad x 0)), (1, .int a0)] X dX12_tellRow_1 rfl rfl (by decide) rfl ?_
  refine gr_iload_n X dX12_tellRow_2 2 rfl rfl ?_
  refine gr_istore_n [(3, .int a0), (2, .int 0), (0, .ref (gx_ad x 0)), (1, .int a0)] X dX12_tellRow_3 rfl rfl (by decide) rfl ?_
  refine gr_sub (lv' := [(0, .ref (gx_ad x 0)), (2, .int 0), (3, .int a0)]) [2, 1, 0] rfl ?_
  exact b12_tellRow_4 X hc hE _ _ _ _ hf

def f12_isRule (a0 : Int32) (M0 : gz_M) : Option (Int32 × gz_M) := gz_bd2 (f12_in a0 0 ((M0.1 0 10) - 1) M0) fun v1 M2 => gz_ck (gz_b01 v1) <| some (v1, M2)
set_option maxRecDepth 100000 in
theorem c12_isRule {pf : Nat → Bool} {l : Launch} {r : Int32} {M0 M' : gz_M} {a0 : Int32} (hf : f12_isRule a0 M0 = some (r, M')) : gz_CI l gz_cfR yX12_isRule cX12_isRule 2 2 .boolean (fun ad => [.ref (ad 0), .int a0]) pf M0 r M' := by
  refine gz_ofI (by decide +kernel) (fun _ => Nat.le_of_ble_eq_true rfl) (fun x X hc hE => ?_)
  show gz_At x 0 [(0, .ref (gx_ad x 0)), (1, .int a0)] [] M0
  unfold f12_isRule at hf
  refine gr_iload_n X dX12_isRule_0 1 rfl rfl ?_
  refine gr_iconst 0 X dX12_isRule_1 (by decide) ?_
  refine gr_aload_n X dX12_isRule_2 0 rfl rfl ?_
  refine gf12_10 X wf_RX12_202 dX12_isRule_3 ?_
  refine gr_iconst 1 X dX12_isRule_6 (by decide) ?_
  refine gr_isub X dX12_isRule_7 ?_
  obtain ⟨v1, M2, q3, hf⟩ := gz_bd2e hf
  refine gr_callSI (asF := fun _ => [.int a0, .int 0, .int ((M0.1 0 10) - 1)]) [.int a0, .int 0, .int ((M0.1 0 10) - 1)] X (c12_in q3) rfl wm_RX12_133 rfl (by decide) (by decide) rfl (Nat.le_of_ble_eq_true rfl) hc dX12_isRule_8 ?_
  obtain ⟨h4, hf⟩ := gz_cke hf
  exact gz_EIu hE hf (gz_nb01 h4).1 dX12_isRule_11

def f12_shortest_27 : Nat → Int32 → Int32 → gz_M → Option (Int32 × gz_M)
  | 0, _, _, _ => none
  | n + 1, x1, x2, M0 => if (M0.1 0 44) ≤ x2 then (some ((-2), M0)) else (gz_ck (gz_inb x1 8) <| gz_ck (gz_inb x2 1024) <| gz_bd2 (f12_winner (M0.1 5 x1.toNatClampNeg) (M0.1 24 x2.toNatClampNeg) M0) fun v4 M5 => if v4 = x1 then (gz_bd2 (f12_tellRow x2 M5) fun v8 M9 => some (v8, M9)) else (gz_lt (x2 + 1) fun v11 => f12_shortest_27 n x1 v11 M5))
theorem b12_shortest_27 {x : gz_X} {pf : Nat → Bool} {l : Launch} {r : Int32} {M' : gz_M} (X : gz_Ok x cX12_shortest RX12 3 3 gz_cfR pf l) (hc : gx_cells x ≤ (gx_R x).cells ∧ gx_slots x ≤ (gx_R x).slots) (hE : gz_EI x cX12_shortest .int r M') : ∀ (n : Nat) (x1 : Int32) (x2 : Int32) (M0 : gz_M), f12_shortest_27 n x1 x2 M0 = some (r, M') → gz_At x 27 [(0, .ref (gx_ad x 0)), (1, .int x1), (2, .int x2)] [] M0 := by
  intro n
  induction n with
  | zero =>
    intro x1 x2 M0  hf
    rw [f12_shortest_27] at hf
    cases hf
  | succ n ih =>
    intro x1 x2 M0  hf
    rw [f12_shortest_27] at hf
    refine gr_iload_n X dX12_shortest_27 2 rfl rfl ?_
    refine gr_aload_n X dX12_shortest_28 0 rfl rfl ?_
    refine gf12_44 X wf_RX12_319 dX12_shortest_29 ?_
    refine gr_icmp_ge 67 X dX12_shortest_32 (by decide) (fun h1 => ?_) (fun h1 => ?_)
    · rw [if_pos h1] at hf
      refine gr_bipush (-2) X dX12_shortest_67 (by decide) ?_
      exact gz_EIu hE hf rfl dX12_shortest_69
    · rw [if_neg h1] at hf
      refine gr_aload_n X dX12_shortest_35 0 rfl rfl ?_
      refine gr_aload_n X dX12_shortest_36 0 rfl rfl ?_
      refine gf12_11 X wf_RX12_24 dX12_shortest_37 ?_
      refine gr_iload_n X dX12_shortest_40 1 rfl rfl ?_
      obtain ⟨h2, hf⟩ := gz_cke hf
      refine gr_iaload X gk_R5 (gz_inp h2) dX12_shortest_41 ?_
      refine gr_aload_n X dX12_shortest_42 0 rfl rfl ?_
      refine gf12_40 X wf_RX12_83 dX12_shortest_43 ?_
      refine gr_iload_n X dX12_shortest_46 2 rfl rfl ?_
      obtain ⟨h3, hf⟩ := gz_cke hf
      refine gr_iaload X gk_R24 (gz_inp h3) dX12_shortest_47 ?_
      obtain ⟨v4, M5, q6, hf⟩ := gz_bd2e hf
      refine gr_callI (asF := fun ad => [.ref (ad 0), .int (M0.1 5 x1.toNatClampNeg), .int (M0.1 24 x2.toNatClampNeg)]) [.int (M0.1 5 x1.toNatClampNeg), .int (M0.1 24 x2.toNatClampNeg)] X (c12_winner q6) rfl wm_RX12_258 rfl (X.kd gk_R0).1 ((X.kd gk_R0).2 _ _ _ _) rfl (by decide) (by decide) rfl (Nat.le_of_ble_eq_true rfl) hc dX12_shortest_48 ?_
      refine gr_iload_n X dX12_shortest_51 1 rfl rfl ?_
      refine gr_icmp_ne 61 X dX12_shortest_52 (by decide) (fun h7 => ?_) (fun h7 => ?_)
      · rw [if_pos h7] at hf
        refine gr_aload_n X dX12_shortest_55 0 rfl rfl ?_
        refine gr_iload_n X dX12_shortest_56 2 rfl rfl ?_
        obtain ⟨v8, M9, q10, hf⟩ := gz_bd2e hf
        refine gr_callI (asF := fun ad => [.ref (ad 0), .int x2]) [.int x2] X (c12_tellRow q10) rfl wm_RX12_331 rfl (X.kd gk_R0).1 ((X.kd gk_R0).2 _ _ _ _) rfl (by decide) (by decide) rfl (Nat.le_of_ble_eq_true rfl) hc dX12_shortest_57 ?_
        exact gz_EIu hE hf rfl dX12_shortest_60
      · rw [if_neg h7] at hf
        obtain ⟨v11, ev11, hf⟩ := gz_lte hf
        refine gr_iinc 1 [(2, .int v11), (0, .ref (gx_ad x 0)), (1, .int x1)] X dX12_shortest_61 2 rfl (by decide) ev11 (by decide) rfl ?_
        refine gr_goto 27 X dX12_shortest_64 (by decide) ?_
        refine gr_sub (lv' := [(0, .ref (gx_ad x 0)), (1, .int x1), (2, .int v11)]) [1, 2, 0] rfl ?_
        exact ih _ _ _ hf

def f12_shortest (a0 : Int32) (M0 : gz_M) : Option (Int32 × gz_M) := gz_lt (gz_w M0 0 5 0) fun M1 => gz_bd2 (f12_isRule a0 M1) fun v2 M3 => if v2 = 0 then (some ((-1), M3)) else (gz_ck (gz_inb a0 8) <| gz_bd (f12_layFound (M3.1 5 a0.toNatClampNeg) M3) fun M7 => f12_shortest_27 gz_FU a0 0 M7)
set_option maxRecDepth 100000 in
theorem c12_shortest {pf : Nat → Bool} {l : Launch} {r : Int32} {M0 M' : gz_M} {a0 : Int32} (hf : f12_shortest a0 M0 = some (r, M')) : gz_CI l gz_cfR yX12_shortest cX12_shortest 3 3 .int (fun ad => [.ref (ad 0), .int a0]) pf M0 r M' := by
  refine gz_ofI (by decide +kernel) (fun _ => Nat.le_of_ble_eq_true rfl) (fun x X hc hE => ?_)
  show gz_At x 0 [(0, .ref (gx_ad x 0)), (1, .int a0)] [] M0
  unfold f12_shortest at hf
  refine gr_aload_n X dX12_shortest_0 0 rfl rfl ?_
  refine gr_iconst 0 X dX12_shortest_1 (by decide) ?_
  obtain ⟨M1, eM1, hf⟩ := gz_lte hf
  refine gp12_5 X wf_RX12_123 eM1 dX12_shortest_2 ?_
  refine gr_aload_n X dX12_shortest_5 0 rfl rfl ?_
  refine gr_iload_n X dX12_shortest_6 1 rfl rfl ?_
  obtain ⟨v2, M3, q4, hf⟩ := gz_bd2e hf
  refine gr_callI (asF := fun ad => [.ref (ad 0), .int a0]) [.int a0] X (c12_isRule q4) rfl wm_RX12_328 rfl (X.kd gk_R0).1 ((X.kd gk_R0).2 _ _ _ _) rfl (by decide) (by decide) rfl (Nat.le_of_ble_eq_true rfl) hc dX12_shortest_7 ?_
  refine gr_if_ne 15 X dX12_shortest_10 (by decide) (fun h5 => ?_) (fun h5 => ?_)
  · rw [if_pos h5] at hf
    refine gr_iconst (-1) X dX12_shortest_13 (by decide) ?_
    exact gz_EIu hE hf rfl dX12_shortest_14
  · rw [if_neg h5] at hf
    refine gr_aload_n X dX12_shortest_15 0 rfl rfl ?_
    refine gr_aload_n X dX12_shortest_16 0 rfl rfl ?_
    refine gf12_11 X wf_RX12_24 dX12_shortest_17 ?_
    refine gr_iload_n X dX12_shortest_20 1 rfl rfl ?_
    obtain ⟨h6, hf⟩ := gz_cke hf
    refine gr_iaload X gk_R5 (gz_inp h6) dX12_shortest_21 ?_
    obtain ⟨M7, q8, hf⟩ := gz_bde hf
    refine gr_callV (asF := fun ad => [.ref (ad 0), .int (M3.1 5 a0.toNatClampNeg)]) [.int (M3.1 5 a0.toNatClampNeg)] X (c12_layFound q8) rfl wm_RX12_325 rfl (X.kd gk_R0).1 ((X.kd gk_R0).2 _ _ _ _) rfl (by decide) (by decide) rfl (Nat.le_of_ble_eq_true rfl) hc dX12_shortest_22 ?_
    refine gr_iconst 0 X dX12_shortest_25 (by decide) ?_
    refine gr_istore_n [(2, .int 0), (0, .ref (gx_ad x 0)), (1, .int a0)] X dX12_shortest_26 rfl rfl (by decide) rfl ?_
    refine gr_sub (lv' := [(0, .ref (gx_ad x 0)), (1, .int a0), (2, .int 0)]) [1, 2, 0] rfl ?_
    exact b12_shortest_27 X hc hE _ _ _ _ hf

def f12_idle_28 (c16 : Int32 → Int32 → gz_M → Option (Int32 × gz_M)) : Nat → Int32 → Int32 → Int32 → gz_M → Option (Int32 × gz_M)
  | 0, _, _, _, _ => none
  | n + 1, x1, x2, x3, M0 => if (M0.1 0 44) ≤ x3 then (gz_lt (x2 + 1) fun v2 => c16 x1 v2 M0) else (gz_ck (gz_inb x3 1024) <| gz_bd2 (f12_winner x2 (M0.1 24 x3.toNatClampNeg) M0) fun v4 M5 => if v4 = (-1) then (gz_lt (x3 + 1) fun v8 => f12_idle_28 c16 n x1 x2 v8 M5) else (gz_ck (gz_inb x3 1024) <| gz_bd2 (f12_winner x2 (M5.1 24 x3.toNatClampNeg) M5) fun v10 M11 => gz_lt (x1 &&& ((gz_shl 1 v10) ^^^ (-1))) fun v13 => gz_lt (x3 + 1) fun v14 => f12_idle_28 c16 n v13 x2 v14 M11))
theorem b12_idle_28 {x : gz_X} {pf : Nat → Bool} {l : Launch} {r : Int32} {M' : gz_M} (X : gz_Ok x cX12_idle RX12 4 3 gz_cfR pf l) (hc : gx_cells x ≤ (gx_R x).cells ∧ gx_slots x ≤ (gx_R x).slots) (hE : gz_EI x cX12_idle .int r M') {c16 : Int32 → Int32 → gz_M → Option (Int32 × gz_M)} (hc16 : ∀ (x1 : Int32) (x2 : Int32) (M0 : gz_M), c16 x1 x2 M0 = some (r, M') → gz_At x 16 [(0, .ref (gx_ad x 0)), (1, .int x1), (2, .int x2)] [] M0) : ∀ (n : Nat) (x1 : Int32) (x2 : Int32) (x3 : Int32) (M0 : gz_M), f12_idle_28 c16 n x1 x2 x3 M0 = some (r, M') → gz_At x 28 [(0, .ref (gx_ad x 0)), (1, .int x1), (2, .int x2), (3, .int x3)] [] M0 := by
  intro n
  induction n with
  | zero =>
    intro x1 x2 x3 M0  hf
    rw [f12_idle_28] at hf
    cases hf
  | succ n ih =>
    intro x1 x2 x3 M0  hf
    rw [f12_idle_28] at hf
    refine gr_iload_n X dX12_idle_28 3 rfl rfl ?_
    refine gr_aload_n X dX12_idle_29 0 rfl rfl ?_
    refine gf12_44 X wf_RX12_319 dX12_idle_30 ?_
    refine gr_icmp_ge 75 X dX12_idle_33 (by decide) (fun h1 => ?_) (fun h1 => ?_)
    · rw [if_pos h1] at hf
      obtain ⟨v2, ev2, hf⟩ := gz_lte hf
      refine gr_iinc 1 [(2, .int v2), (0, .ref (gx_ad x 0)), (1, .int x1), (3, .int x3)] X dX12_idle_75 2 rfl (by decide) ev2 (by decide) rfl ?_
      refine gr_goto 16 X dX12_idle_78 (by decide) ?_
      refine gr_sub (lv' := [(0, .ref (gx_ad x 0)), (1, .int x1), (2, .int v2)]) [1, 2, 0] rfl ?_
      exact hc16 _ _ _ hf
    · rw [if_neg h1] at hf
      refine gr_aload_n X dX12_idle_36 0 rfl rfl ?_
      refine gr_iload_n X dX12_idle_37 2 rfl rfl ?_
      refine gr_aload_n X dX12_idle_38 0 rfl rfl ?_
      refine gf12_40 X wf_RX12_83 dX12_idle_39 ?_
      refine gr_iload_n X dX12_idle_42 3 rfl rfl ?_
      obtain ⟨h3, hf⟩ := gz_cke hf
      refine gr_iaload X gk_R24 (gz_inp h3) dX12_idle_43 ?_
      obtain ⟨v4, M5, q6, hf⟩ := gz_bd2e hf
      refine gr_callI (asF := fun ad => [.ref (ad 0), .int x2, .int (M0.1 24 x3.toNatClampNeg)]) [.int x2, .int (M0.1 24 x3.toNatClampNeg)] X (c12_winner q6) rfl wm_RX12_258 rfl (X.kd gk_R0).1 ((X.kd gk_R0).2 _ _ _ _) rfl (by decide) (by decide) rfl (Nat.le_of_ble_eq_true rfl) hc dX12_idle_44 ?_
      refine gr_iconst (-1) X dX12_idle_47 (by decide) ?_
      refine gr_icmp_eq 69 X dX12_idle_48 (by decide) (fun h7 => ?_) (fun h7 => ?_)
      · rw [if_pos h7] at hf
        obtain ⟨v8, ev8, hf⟩ := gz_lte hf
        refine gr_iinc 1 [(3, .int v8), (0, .ref (gx_ad x 0)), (1, .int x1), (2, .int x2)] X dX12_idle_69 3 rfl (by decide) ev8 (by decide) rfl ?_
        refine gr_goto 28 X dX12_idle_72 (by decide) ?_
        refine gr_sub (lv' := [(0, .ref (gx_ad x 0)), (1, .int x1), (2, .int x2), (3, .int v8)]) [1, 2, 3, 0] rfl ?_
        exact ih _ _ _ _ hf
      · rw [if_neg h7] at hf
        refine gr_iload_n X dX12_idle_51 1 rfl rfl ?_
        refine gr_iconst 1 X dX12_idle_52 (by decide) ?_
        refine gr_aload_n X dX12_idle_53 0 rfl rfl ?_
        refine gr_iload_n X dX12_idle_54 2 rfl rfl ?_
        refine gr_aload_n X dX12_idle_55 0 rfl rfl ?_
        refine gf12_40 X wf_RX12_83 dX12_idle_56 ?_
        refine gr_iload_n X dX12_idle_59 3 rfl rfl ?_
        obtain ⟨h9, hf⟩ := gz_cke hf
        refine gr_iaload X gk_R24 (gz_inp h9) dX12_idle_60 ?_
        obtain ⟨v10, M11, q12, hf⟩ := gz_bd2e hf
        refine gr_callI (asF := fun ad => [.ref (ad 0), .int x2, .int (M5.1 24 x3.toNatClampNeg)]) [.int x2, .int (M5.1 24 x3.toNatClampNeg)] X (c12_winner q12) rfl wm_RX12_258 rfl (X.kd gk_R0).1 ((X.kd gk_R0).2 _ _ _ _) rfl (by decide) (by decide) rfl (Nat.le_of_ble_eq_true rfl) hc dX12_idle_61 ?_
        refine gr_ishl X dX12_idle_64 ?_
        refine gr_iconst (-1) X dX12_idle_65 (by decide) ?_
        refine gr_ixor X dX12_idle_66 ?_
        refine gr_iand X dX12_idle_67 ?_
        obtain ⟨v13, ev13, hf⟩ := gz_lte hf
        refine gr_istore_n [(1, .int v13), (0, .ref (gx_ad x 0)), (2, .int x2), (3, .int x3)] X dX12_idle_68 ev13 rfl (by decide) rfl ?_
        obtain ⟨v14, ev14, hf⟩ := gz_lte hf
        refine gr_iinc 1 [(3, .int v14), (1, .int v13), (0, .ref (gx_ad x 0)), (2, .int x2)] X dX12_idle_69 3 rfl (by decide) ev14 (by decide) rfl ?_
        refine gr_goto 28 X dX12_idle_72 (by decide) ?_
        refine gr_sub (lv' := [(0, .ref (gx_ad x 0)), (1, .int v13), (2, .int x2), (3, .int v14)]) [2, 1, 3, 0] rfl ?_
        exact ih _ _ _ _ hf

def f12_idle_16 : Nat → Int32 → Int32 → gz_M → Option (Int32 × gz_M)
  | 0, _, _, _ => none
  | n + 1, x1, x2, M0 => if 4 ≤ x2 then (gz_lt (gz_w M0 0 4 0) fun M2 => gz_bd2 (fJ_bitCount x1 M2) fun v3 M4 => gz_bd (f12_tell (v3.toInt64) M4) fun M6 => some (x1, M6)) else (gz_bd (f12_layFound x2 M0) fun M8 => f12_idle_28 (f12_idle_16 n) gz_FU x1 x2 0 M8)
theorem b12_idle_16 {x : gz_X} {pf : Nat → Bool} {l : Launch} {r : Int32} {M' : gz_M} (X : gz_Ok x cX12_idle RX12 4 3 gz_cfR pf l) (hc : gx_cells x ≤ (gx_R x).cells ∧ gx_slots x ≤ (gx_R x).slots) (hE : gz_EI x cX12_idle .int r M') : ∀ (n : Nat) (x1 : Int32) (x2 : Int32) (M0 : gz_M), f12_idle_16 n x1 x2 M0 = some (r, M') → gz_At x 16 [(0, .ref (gx_ad x 0)), (1, .int x1), (2, .int x2)] [] M0 := by
  intro n
  induction n with
  | zero =>
    intro x1 x2 M0  hf
    rw [f12_idle_16] at hf
    cases hf
  | succ n ih =>
    intro x1 x2 M0  hf
    rw [f12_idle_16] at hf
    refine gr_iload_n X dX12_idle_16 2 rfl rfl ?_
    refine gr_iconst 4 X dX12_idle_17 (by decide) ?_
    refine gr_icmp_ge 81 X dX12_idle_18 (by decide) (fun h1 => ?_) (fun h1 => ?_)
    · rw [if_pos h1] at hf
      refine gr_aload_n X dX12_idle_81 0 rfl rfl ?_
      refine gr_iconst 0 X dX12_idle_82 (by decide) ?_
      obtain ⟨M2, eM2, hf⟩ := gz_lte hf
      refine gp12_4 X wf_RX12_127 eM2 dX12_idle_83 ?_
      refine gr_aload_n X dX12_idle_86 0 rfl rfl ?_
      refine gr_iload_n X dX12_idle_87 1 rfl rfl ?_
      obtain ⟨v3, M4, q5, hf⟩ := gz_bd2e hf
      refine gr_callSI (asF := fun _ => [.int x1]) [.int x1] X (cJ_bitCount q5) rfl wm_RX12_313 rfl (by decide) (by decide) rfl (Nat.le_of_ble_eq_true rfl) hc dX12_idle_88 ?_
      refine gr_i2l X dX12_idle_91 ?_
      obtain ⟨M6, q7, hf⟩ := gz_bde hf
      refine gr_callV (asF := fun ad => [.ref (ad 0), .long (v3.toInt64)]) [.long (v3.toInt64)] X (c12_tell q7) rfl wm_RX12_280 rfl (X.kd gk_R0).1 ((X.kd gk_R0).2 _ _ _ _) rfl (by decide) (by decide) rfl (Nat.le_of_ble_eq_true rfl) hc dX12_idle_92 ?_
      refine gr_iload_n X dX12_idle_95 1 rfl rfl ?_
      exact gz_EIu hE hf rfl dX12_idle_96
    · rw [if_neg h1] at hf
      refine gr_aload_n X dX12_idle_21 0 rfl rfl ?_
      refine gr_iload_n X dX12_idle_22 2 rfl rfl ?_
      obtain ⟨M8, q9, hf⟩ := gz_bde hf
      refine gr_callV (asF := fun ad => [.ref (ad 0), .int x2]) [.int x2] X (c12_layFound q9) rfl wm_RX12_325 rfl (X.kd gk_R0).1 ((X.kd gk_R0).2 _ _ _ _) rfl (by decide) (by decide) rfl (Nat.le_of_ble_eq_true rfl) hc dX12_idle_23 ?_
      refine gr_iconst 0 X dX12_idle_26 (by decide) ?_
      refine gr_istore_n [(3, .int 0), (0, .ref (gx_ad x 0)), (1, .int x1), (2, .int x2)] X dX12_idle_27 rfl rfl (by decide) rfl ?_
      refine gr_sub (lv' := [(0, .ref (gx_ad x 0)), (1, .int x1), (2, .int x2), (3, .int 0)]) [1, 2, 3, 0] rfl ?_
      exact b12_idle_28 X hc hE ih _ _ _ _ _ hf

def f12_idle (M0 : gz_M) : Option (Int32 × gz_M) := gz_lt (gz_w M0 0 5 0) fun M1 => gz_lt ((gz_shl 1 (M1.1 0 10)) - 1) fun v2 => f12_idle_16 gz_FU v2 0 M1
set_option maxRecDepth 100000 in
theorem c12_idle {pf : Nat → Bool} {l : Launch} {r : Int32} {M0 M' : gz_M} (hf : f12_idle M0 = some (r, M')) : gz_CI l gz_cfR yX12_idle cX12_idle 4 3 .int (fun ad => [.ref (ad 0)]) pf M0 r M' := by
  refine gz_ofI (by decide +kernel) (fun _ => Nat.le_of_ble_eq_true rfl) (fun x X hc hE => ?_)
  show gz_At x 0 [(0, .ref (gx_ad x 0))] [] M0
  unfold f12_idle at hf
  refine gr_aload_n X dX12_idle_0 0 rfl rfl ?_
  refine gr_iconst 0 X dX12_idle_1 (by decide) ?_
  obtain ⟨M1, eM1, hf⟩ := gz_lte hf
  refine gp12_5 X wf_RX12_123 eM1 dX12_idle_2 ?_
  refine gr_iconst 1 X dX12_idle_5 (by decide) ?_
  refine gr_aload_n X dX12_idle_6 0 rfl rfl ?_
  refine gf12_10 X wf_RX12_202 dX12_idle_7 ?_
  refine gr_ishl X dX12_idle_10 ?_
  refine gr_iconst 1 X dX12_idle_11 (by decide) ?_
  refine gr_isub X dX12_idle_12 ?_
  obtain ⟨v2, ev2, hf⟩ := gz_lte hf
  refine gr_istore_n [(1, .int v2), (0, .ref (gx_ad x 0))] X dX12_idle_13 ev2 rfl (by decide) rfl ?_
  refine gr_iconst 0 X dX12_idle_14 (by decide) ?_
  refine gr_istore_n [(2, .int 0), (1, .int v2), (0, .ref (gx_ad x 0))] X dX12_idle_15 rfl rfl (by decide) rfl ?_
  refine gr_sub (lv' := [(0, .ref (gx_ad x 0)), (1, .int v2), (2, .int 0)]) [2, 1, 0] rfl ?_
  exact b12_idle_16 X hc hE _ _ _ _ hf

def f12_overlap_58 : Nat → Int32 → Int32 → Int32 → gz_M → Option (Int32 × gz_M)
  | 0, _, _, _, _ => none
  | n + 1, x1, x2, x3, M0 => if (M0.1 0 44) ≤ x3 then (some ((-2), M0)) else (gz_ck (gz_inb x3 1024) <| gz_ck (gz_inb x1 8) <| if ((M0.1 24 x3.toNatClampNeg) &&& (M0.1 11 x1.toNatClampNeg)) = 0 then (gz_lt (x3 + 1) fun v5 => f12_overlap_58 n x1 x2 v5 M0) else (gz_ck (gz_inb x3 1024) <| gz_ck (gz_inb x2 8) <| if ((M0.1 24 x3.toNatClampNeg) &&& (M0.1 11 x2.toNatClampNeg)) = 0 then (gz_lt (x3 + 1) fun v9 => f12_overlap_58 n x1 x2 v9 M0) else (gz_bd2 (f12_tellRow x3 M0) fun v10 M11 => some (v10, M11))))
theorem b12_overlap_58 {x : gz_X} {pf : Nat → Bool} {l : Launch} {r : Int32} {M' : gz_M} (X : gz_Ok x cX12_overlap RX12 4 3 gz_cfR pf l) (hc : gx_cells x ≤ (gx_R x).cells ∧ gx_slots x ≤ (gx_R x).slots) (hE : gz_EI x cX12_overlap .int r M') : ∀ (n : Nat) (x1 : Int32) (x2 : Int32) (x3 : Int32) (M0 : gz_M), f12_overlap_58 n x1 x2 x3 M0 = some (r, M') → gz_At x 58 [(0, .ref (gx_ad x 0)), (1, .int x1), (2, .int x2), (3, .int x3)] [] M0 := by
  intro n
  induction n with
  | zero =>
    intro x1 x2 x3 M0  hf
    rw [f12_overlap_58] at hf
    cases hf
  | succ n ih =>
    intro x1 x2 x3 M0  hf
    rw [f12_overlap_58] at hf
    refine gr_iload_n X dX12_overlap_58 3 rfl rfl ?_
    refine gr_aload_n X dX12_overlap_59 0 rfl rfl ?_
    refine gf12_44 X wf_RX12_319 dX12_overlap_60 ?_
    refine gr_icmp_ge 110 X dX12_overlap_63 (by decide) (fun h1 => ?_) (fun h1 => ?_)
    · rw [if_pos h1] at hf
      refine gr_bipush (-2) X dX12_overlap_110 (by decide) ?_
      exact gz_EIu hE hf rfl dX12_overlap_112
    · rw [if_neg h1] at hf
      refine gr_aload_n X dX12_overlap_66 0 rfl rfl ?_
      refine gf12_40 X wf_RX12_83 dX12_overlap_67 ?_
      refine gr_iload_n X dX12_overlap_70 3 rfl rfl ?_
      obtain ⟨h2, hf⟩ := gz_cke hf
      refine gr_iaload X gk_R24 (gz_inp h2) dX12_overlap_71 ?_
      refine gr_aload_n X dX12_overlap_72 0 rfl rfl ?_
      refine gf12_17 X wf_RX12_43 dX12_overlap_73 ?_
      refine gr_iload_n X dX12_overlap_76 1 rfl rfl ?_
      obtain ⟨h3, hf⟩ := gz_cke hf
      refine gr_iaload X gk_R11 (gz_inp h3) dX12_overlap_77 ?_
      refine gr_iand X dX12_overlap_78 ?_
      refine gr_if_eq 104 X dX12_overlap_79 (by decide) (fun h4 => ?_) (fun h4 => ?_)
      · rw [if_pos h4] at hf
        obtain ⟨v5, ev5, hf⟩ := gz_lte hf
        refine gr_iinc 1 [(3, .int v5), (0, .ref (gx_ad x 0)), (1, .int x1), (2, .int x2)] X dX12_overlap_104 3 rfl (by decide) ev5 (by decide) rfl ?_
        refine gr_goto 58 X dX12_overlap_107 (by decide) ?_
        refine gr_sub (lv' := [(0, .ref (gx_ad x 0)), (1, .int x1), (2, .int x2), (3, .int v5)]) [1, 2, 3, 0] rfl ?_
        exact ih _ _ _ _ hf
      · rw [if_neg h4] at hf
        refine gr_aload_n X dX12_overlap_82 0 rfl rfl ?_
        refine gf12_40 X wf_RX12_83 dX12_overlap_83 ?_
        refine gr_iload_n X dX12_overlap_86 3 rfl rfl ?_
        obtain ⟨h6, hf⟩ := gz_cke hf
        refine gr_iaload X gk_R24 (gz_inp h6) dX12_overlap_87 ?_
        refine gr_aload_n X dX12_overlap_88 0 rfl rfl ?_
        refine gf12_17 X wf_RX12_43 dX12_overlap_89 ?_
        refine gr_iload_n X dX12_overlap_92 2 rfl rfl ?_
        obtain ⟨h7, hf⟩ := gz_cke hf
        refine gr_iaload X gk_R11 (gz_inp h7) dX12_overlap_93 ?_
        refine gr_iand X dX12_overlap_94 ?_
        refine gr_if_eq 104 X dX12_overlap_95 (by decide) (fun h8 => ?_) (fun h8 => ?_)
        · rw [if_pos h8] at hf
          obtain ⟨v9, ev9, hf⟩ := gz_lte hf
          refine gr_iinc 1 [(3, .int v9), (0, .ref (gx_ad x 0)), (1, .int x1), (2, .int x2)] X dX12_overlap_104 3 rfl (by decide) ev9 (by decide) rfl ?_
          refine gr_goto 58 X dX12_overlap_107 (by decide) ?_
          refine gr_sub (lv' := [(0, .ref (gx_ad x 0)), (1, .int x1), (2, .int x2), (3, .int v9)]) [1, 2, 3, 0] rfl ?_
          exact ih _ _ _ _ hf
        · rw [if_neg h8] at hf
          refine gr_aload_n X dX12_overlap_98 0 rfl rfl ?_
          refine gr_iload_n X dX12_overlap_99 3 rfl rfl ?_
          obtain ⟨v10, M11, q12, hf⟩ := gz_bd2e hf
          refine gr_callI (asF := fun ad => [.ref (ad 0), .int x3]) [.int x3] X (c12_tellRow q12) rfl wm_RX12_331 rfl (X.kd gk_R0).1 ((X.kd gk_R0).2 _ _ _ _) rfl (by decide) (by decide) rfl (Nat.le_of_ble_eq_true rfl) hc dX12_overlap_100 ?_
          exact gz_EIu hE hf rfl dX12_overlap_103

def f12_overlap (a0 : Int32) (a1 : Int32) (M0 : gz_M) : Option (Int32 × gz_M) := gz_lt (gz_w M0 0 5 0) fun M1 => gz_bd2 (f12_isRule a0 M1) fun v2 M3 => if v2 = 0 then (some ((-1), M3)) else (gz_bd2 (f12_isRule a1 M3) fun v6 M7 => if v6 = 0 then (some ((-1), M7)) else (if a0 = a1 then (some ((-1), M7)) else (gz_ck (gz_inb a0 8) <| gz_ck (gz_inb a1 8) <| if (M7.1 5 a0.toNatClampNeg) = (M7.1 5 a1.toNatClampNeg) then (gz_ck (gz_inb a0 8) <| gz_bd (f12_layFound (M7.1 5 a0.toNatClampNeg) M7) fun M15 => f12_overlap_58 gz_FU a0 a1 0 M15) else (some ((-3), M7)))))
set_option maxRecDepth 100000 in
theorem c12_overlap {pf : Nat → Bool} {l : Launch} {r : Int32} {M0 M' : gz_M} {a0 : Int32} {a1 : Int32} (hf : f12_overlap a0 a1 M0 = some (r, M')) : gz_CI l gz_cfR yX12_overlap cX12_overlap 4 3 .int (fun ad => [.ref (ad 0), .int a0, .int a1]) pf M0 r M' := by
  refine gz_ofI (by decide +kernel) (fun _ => Nat.le_of_ble_eq_true rfl) (fun x X hc hE => ?_)
  show gz_At x 0 [(0, .ref (gx_ad x 0)), (1, .int a0), (2, .int a1)] [] M0
  unfold f12_overlap at hf
  refine gr_aload_n X dX12_overlap_0 0 rfl rfl ?_
  refine gr_iconst 0 X dX12_overlap_1 (by decide) ?_
  obtain ⟨M1, eM1, hf⟩ := gz_lte hf
  refine gp12_5 X wf_RX12_123 eM1 dX12_overlap_2 ?_
  refine gr_aload_n X dX12_overlap_5 0 rfl rfl ?_
  refine gr_iload_n X dX12_overlap_6 1 rfl rfl ?_
  obtain ⟨v2, M3, q4, hf⟩ := gz_bd2e hf
  refine gr_callI (asF := fun ad => [.ref (ad 0), .int a0]) [.int a0] X (c12_isRule q4) rfl wm_RX12_328 rfl (X.kd gk_R0).1 ((X.kd gk_R0).2 _ _ _ _) rfl (by decide) (by decide) rfl (Nat.le_of_ble_eq_true rfl) hc dX12_overlap_7 ?_
  refine gr_if_eq 26 X dX12_overlap_10 (by decide) (fun h5 => ?_) (fun h5 => ?_)
  · rw [if_pos h5] at hf
    refine gr_iconst (-1) X dX12_overlap_26 (by decide) ?_
    exact gz_EIu hE hf rfl dX12_overlap_27
  · rw [if_neg h5] at hf
    refine gr_aload_n X dX12_overlap_13 0 rfl rfl ?_
    refine gr_iload_n X dX12_overlap_14 2 rfl rfl ?_
    obtain ⟨v6, M7, q8, hf⟩ := gz_bd2e hf
    refine gr_callI (asF := fun ad => [.ref (ad 0), .int a1]) [.int a1] X (c12_isRule q8) rfl wm_RX12_328 rfl (X.kd gk_R0).1 ((X.kd gk_R0).2 _ _ _ _) rfl (by decide) (by decide) rfl (Nat.le_of_ble_eq_true rfl) hc dX12_overlap_15 ?_
    refine gr_if_eq 26 X dX12_overlap_18 (by decide) (fun h9 => ?_) (fun h9 => ?_)
    · rw [if_pos h9] at hf
      refine gr_iconst (-1) X dX12_overlap_26 (by decide) ?_
      exact gz_EIu hE hf rfl dX12_overlap_27
    · rw [if_neg h9] at hf
      refine gr_iload_n X dX12_overlap_21 1 rfl rfl ?_
      refine gr_iload_n X dX12_overlap_22 2 rfl rfl ?_
      refine gr_icmp_ne 28 X dX12_overlap_23 (by decide) (fun h10 => ?_) (fun h10 => ?_)
      · rw [if_pos h10] at hf
        refine gr_iconst (-1) X dX12_overlap_26 (by decide) ?_
        exact gz_EIu hE hf rfl dX12_overlap_27
      · rw [if_neg h10] at hf
        refine gr_aload_n X dX12_overlap_28 0 rfl rfl ?_
        refine gf12_11 X wf_RX12_24 dX12_overlap_29 ?_
        refine gr_iload_n X dX12_overlap_32 1 rfl rfl ?_
        obtain ⟨h11, hf⟩ := gz_cke hf
        refine gr_iaload X gk_R5 (gz_inp h11) dX12_overlap_33 ?_
        refine gr_aload_n X dX12_overlap_34 0 rfl rfl ?_
        refine gf12_11 X wf_RX12_24 dX12_overlap_35 ?_
        refine gr_iload_n X dX12_overlap_38 2 rfl rfl ?_
        obtain ⟨h12, hf⟩ := gz_cke hf
        refine gr_iaload X gk_R5 (gz_inp h12) dX12_overlap_39 ?_
        refine gr_icmp_eq 46 X dX12_overlap_40 (by decide) (fun h13 => ?_) (fun h13 => ?_)
        · rw [if_pos h13] at hf
          refine gr_aload_n X dX12_overlap_46 0 rfl rfl ?_
          refine gr_aload_n X dX12_overlap_47 0 rfl rfl ?_
          refine gf12_11 X wf_RX12_24 dX12_overlap_48 ?_
          refine gr_iload_n X dX12_overlap_51 1 rfl rfl ?_
          obtain ⟨h14, hf⟩ := gz_cke hf
          refine gr_iaload X gk_R5 (gz_inp h14) dX12_overlap_52 ?_
          obtain ⟨M15, q16, hf⟩ := gz_bde hf
          refine gr_callV (asF := fun ad => [.ref (ad 0), .int (M7.1 5 a0.toNatClampNeg)]) [.int (M7.1 5 a0.toNatClampNeg)] X (c12_layFound q16) rfl wm_RX12_325 rfl (X.kd gk_R0).1 ((X.kd gk_R0).2 _ _ _ _) rfl (by decide) (by decide) rfl (Nat.le_of_ble_eq_true rfl) hc dX12_overlap_53 ?_
          refine gr_iconst 0 X dX12_overlap_56 (by decide) ?_
          refine gr_istore_n [(3, .int 0), (0, .ref (gx_ad x 0)), (1, .int a0), (2, .int a1)] X dX12_overlap_57 rfl rfl (by decide) rfl ?_
          refine gr_sub (lv' := [(0, .ref (gx_ad x 0)), (1, .int a0), (2, .int a1), (3, .int 0)]) [1, 2, 3, 0] rfl ?_
          exact b12_overlap_58 X hc hE _ _ _ _ _ hf
        · rw [if_neg h13] at hf
          refine gr_bipush (-3) X dX12_overlap_43 (by decide) ?_
          exact gz_EIu hE hf rfl dX12_overlap_45

def f12_ways_208 (c63 : Int32 → Int32 → gz_M → Option (Int32 × gz_M)) (c74 : Int32 → Int32 → Int32 → Int32 → gz_M → Option (Int32 × gz_M)) (x2 : Int32) (x3 : Int32) (x4 : Int32) (x5 : Int32) (M0 : gz_M) : Option (Int32 × gz_M) := gz_ck (gz_inb x3 25) <| gz_ck (gz_inb (x5 + 1) 25) <| gz_lt (gz_w M0 30 (x5 + 1).toNatClampNeg ((M0.1 30 x3.toNatClampNeg) + 1)) fun M3 => gz_lt (x5 + 1) fun v4 => c74 x2 x3 x4 v4 M3
theorem b12_ways_208 {x : gz_X} {pf : Nat → Bool} {l : Launch} {r : Int32} {M' : gz_M} (X : gz_Ok x cX12_ways RX12 6 2 gz_cfR pf l) (hc : gx_cells x ≤ (gx_R x).cells ∧ gx_slots x ≤ (gx_R x).slots) (hE : gz_EI x cX12_ways .int r M') {c63 : Int32 → Int32 → gz_M → Option (Int32 × gz_M)} (hc63 : ∀ (x2 : Int32) (x3 : Int32) (M0 : gz_M), c63 x2 x3 M0 = some (r, M') → gz_At x 63 [(0, .ref (gx_ad x 0)), (2, .int x2), (3, .int x3)] [] M0) {c74 : Int32 → Int32 → Int32 → Int32 → gz_M → Option (Int32 × gz_M)} (hc74 : ∀ (x2 : Int32) (x3 : Int32) (x4 : Int32) (x5 : Int32) (M0 : gz_M), c74 x2 x3 x4 x5 M0 = some (r, M') → gz_At x 74 [(0, .ref (gx_ad x 0)), (2, .int x2), (3, .int x3), (4, .int x4), (5, .int x5)] [] M0) : ∀ (x2 : Int32) (x3 : Int32) (x4 : Int32) (x5 : Int32) (M0 : gz_M), f12_ways_208 c63 c74 x2 x3 x4 x5 M0 = some (r, M') → gz_At x 208 [(0, .ref (gx_ad x 0)), (2, .int x2), (3, .int x3), (4, .int x4), (5, .int x5)] [] M0 := by
  intro x2 x3 x4 x5 M0  hf
  rw [f12_ways_208] at hf
  refine gr_aload_n X dX12_ways_208 0 rfl rfl ?_
  refine gf12_47 X wf_RX12_101 dX12_ways_209 ?_
  refine gr_iload X dX12_ways_212 4 rfl ?_
  refine gr_iconst 1 X dX12_ways_214 (by decide) ?_
  refine gr_iadd X dX12_ways_215 ?_
  refine gr_aload_n X dX12_ways_216 0 rfl rfl ?_
  refine gf12_47 X wf_RX12_101 dX12_ways_217 ?_
  refine gr_iload_n X dX12_ways_220 2 rfl rfl ?_
  obtain ⟨h1, hf⟩ := gz_cke hf
  refine gr_iaload X gk_R30 (gz_inp h1) dX12_ways_221 ?_
  refine gr_iconst 1 X dX12_ways_222 (by decide) ?_
  refine gr_iadd X dX12_ways_223 ?_
  obtain ⟨h2, hf⟩ := gz_cke hf
  obtain ⟨M3, eM3, hf⟩ := gz_lte hf
  refine gr_iastore X gk_R30 (gz_inp h2) eM3 dX12_ways_224 ?_
  obtain ⟨v4, ev4, hf⟩ := gz_lte hf
  refine gr_iinc 1 [(5, .int v4), (0, .ref (gx_ad x 0)), (2, .int x2), (3, .int x3), (4, .int x4)] X dX12_ways_225 4 rfl (by decide) ev4 (by decide) rfl ?_
  refine gr_goto 74 X dX12_ways_228 (by decide) ?_
  refine gr_sub (lv' := [(0, .ref (gx_ad x 0)), (2, .int x2), (3, .int x3), (4, .int x4), (5, .int v4)]) [1, 2, 3, 4, 0] rfl ?_
  exact hc74 _ _ _ _ _ hf

def f12_ways_115 (c63 : Int32 → Int32 → gz_M → Option (Int32 × gz_M)) (c74 : Int32 → Int32 → Int32 → Int32 → gz_M → Option (Int32 × gz_M)) (x2 : Int32) (x3 : Int32) (x5 : Int32) (s0 : Int32) (s1 : Int32) (s2 : Int32) (M0 : gz_M) : Option (Int32 × gz_M) := gz_ck (gz_inb (82 + x5) 106) <| gz_bd2 (f12_step s2 s1 s0 (M0.1 1 (82 + x5).toNatClampNeg) M0) fun v2 M3 => gz_bd2 (f12_winner 0 v2 M3) fun v5 M6 => if v5 = (-1) then (gz_lt (x5 + 1) fun v9 => c74 x2 x3 v2 v9 M6) else (gz_ck (gz_inb (x5 + 1) 25) <| gz_ck (gz_inb x3 25) <| gz_ck (gz_inb (x5 + 1) 25) <| gz_lt (gz_w M6 29 (x5 + 1).toNatClampNeg (gz_min 1000000 ((M6.1 29 (x5 + 1).toNatClampNeg) + (M6.1 29 x3.toNatClampNeg)))) fun M13 => gz_ck (gz_inb (x5 + 1) 25) <| if (M13.1 30 (x5 + 1).toNatClampNeg) = (-1) then (f12_ways_208 c63 c74 x2 x3 v2 x5 M13) else (gz_ck (gz_inb x3 25) <| gz_ck (gz_inb (x5 + 1) 25) <| if (M13.1 30 (x5 + 1).toNatClampNeg) ≤ ((M13.1 30 x3.toNatClampNeg) + 1) then (gz_lt (x5 + 1) fun v19 => c74 x2 x3 v2 v19 M13) else (f12_ways_208 c63 c74 x2 x3 v2 x5 M13)))
theorem b12_ways_115 {x : gz_X} {pf : Nat → Bool} {l : Launch} {r : Int32} {M' : gz_M} (X : gz_Ok x cX12_ways RX12 6 2 gz_cfR pf l) (hc : gx_cells x ≤ (gx_R x).cells ∧ gx_slots x ≤ (gx_R x).slots) (hE : gz_EI x cX12_ways .int r M') {c63 : Int32 → Int32 → gz_M → Option (Int32 × gz_M)} (hc63 : ∀ (x2 : Int32) (x3 : Int32) (M0 : gz_M), c63 x2 x3 M0 = some (r, M') → gz_At x 63 [(0, .ref (gx_ad x 0)), (2, .int x2), (3, .int x3)] [] M0) {c74 : Int32 → Int32 → Int32 → Int32 → gz_M → Option (Int32 × gz_M)} (hc74 : ∀ (x2 : Int32) (x3 : Int32) (x4 : Int32) (x5 : Int32) (M0 : gz_M), c74 x2 x3 x4 x5 M0 = some (r, M') → gz_At x 74 [(0, .ref (gx_ad x 0)), (2, .int x2), (3, .int x3), (4, .int x4), (5, .int x5)] [] M0) : ∀ (x2 : Int32) (x3 : Int32) (x5 : Int32) (s0 : Int32) (s1 : Int32) (s2 : Int32) (M0 : gz_M), f12_ways_115 c63 c74 x2 x3 x5 s0 s1 s2 M0 = some (r, M') → gz_At x 115 [(0, .ref (gx_ad x 0)), (2, .int x2), (3, .int x3), (5, .int x5)] [.int s0, .int s1, .int s2, .ref (gx_ad x 0)] M0 := by
  intro x2 x3 x5 s0 s1 s2 M0  hf
  rw [f12_ways_115] at hf
  refine gr_aload_n X dX12_ways_115 0 rfl rfl ?_
  refine gf12_0 X wf_RX12_9 dX12_ways_116 ?_
  refine gr_bipush 82 X dX12_ways_119 (by decide) ?_
  refine gr_iload X dX12_ways_121 3 rfl ?_
  refine gr_iadd X dX12_ways_123 ?_
  obtain ⟨h1, hf⟩ := gz_cke hf
  refine gr_iaload X gk_R1 (gz_inp h1) dX12_ways_124 ?_
  obtain ⟨v2, M3, q4, hf⟩ := gz_bd2e hf
  refine gr_callI (asF := fun ad => [.ref (ad 0), .int s2, .int s1, .int s0, .int (M0.1 1 (82 + x5).toNatClampNeg)]) [.int s2, .int s1, .int s0, .int (M0.1 1 (82 + x5).toNatClampNeg)] X (c12_step q4) rfl wm_RX12_250 rfl (X.kd gk_R0).1 ((X.kd gk_R0).2 _ _ _ _) rfl (by decide) (by decide) rfl (Nat.le_of_ble_eq_true rfl) hc dX12_ways_125 ?_
  refine gr_istore [(4, .int v2), (0, .ref (gx_ad x 0)), (2, .int x2), (3, .int x3), (5, .int x5)] X dX12_ways_128 rfl (by decide) rfl ?_
  refine gr_aload_n X dX12_ways_130 1 rfl rfl ?_
  refine gr_iconst 0 X dX12_ways_131 (by decide) ?_
  refine gr_iload X dX12_ways_132 0 rfl ?_
  obtain ⟨v5, M6, q7, hf⟩ := gz_bd2e hf
  refine gr_callI (asF := fun ad => [.ref (ad 0), .int 0, .int v2]) [.int 0, .int v2] X (c12_winner q7) rfl wm_RX12_258 rfl (X.kd gk_R0).1 ((X.kd gk_R0).2 _ _ _ _) rfl (by decide) (by decide) rfl (Nat.le_of_ble_eq_true rfl) hc dX12_ways_134 ?_
  refine gr_iconst (-1) X dX12_ways_137 (by decide) ?_
  refine gr_icmp_ne 144 X dX12_ways_138 (by decide) (fun h8 => ?_) (fun h8 => ?_)
  · rw [if_pos h8] at hf
    refine gr_goto 225 X dX12_ways_141 (by decide) ?_
    obtain ⟨v9, ev9, hf⟩ := gz_lte hf
    refine gr_iinc 1 [(5, .int v9), (4, .int v2), (0, .ref (gx_ad x 0)), (2, .int x2), (3, .int x3)] X dX12_ways_225 4 rfl (by decide) ev9 (by decide) rfl ?_
    refine gr_goto 74 X dX12_ways_228 (by decide) ?_
    refine gr_sub (lv' := [(0, .ref (gx_ad x 0)), (2, .int x2), (3, .int x3), (4, .int v2), (5, .int v9)]) [2, 3, 4, 1, 0] rfl ?_
    exact hc74 _ _ _ _ _ hf
  · rw [if_neg h8] at hf
    refine gr_aload_n X dX12_ways_144 1 rfl rfl ?_
    refine gf12_46 X wf_RX12_98 dX12_ways_145 ?_
    refine gr_iload X dX12_ways_148 4 rfl ?_
    refine gr_iconst 1 X dX12_ways_150 (by decide) ?_
    refine gr_iadd X dX12_ways_151 ?_
    refine gr_ldc_w 1000000 X dX12_ways_152 wk_RX12_334 ?_
    refine gr_aload_n X dX12_ways_155 1 rfl rfl ?_
    refine gf12_46 X wf_RX12_98 dX12_ways_156 ?_
    refine gr_iload X dX12_ways_159 4 rfl ?_
    refine gr_iconst 1 X dX12_ways_161 (by decide) ?_
    refine gr_iadd X dX12_ways_162 ?_
    obtain ⟨h10, hf⟩ := gz_cke hf
    refine gr_iaload X gk_R29 (gz_inp h10) dX12_ways_163 ?_
    refine gr_aload_n X dX12_ways_164 1 rfl rfl ?_
    refine gf12_46 X wf_RX12_98 dX12_ways_165 ?_
    refine gr_iload_n X dX12_ways_168 3 rfl rfl ?_
    obtain ⟨h11, hf⟩ := gz_cke hf
    refine gr_iaload X gk_R29 (gz_inp h11) dX12_ways_169 ?_
    refine gr_iadd X dX12_ways_170 ?_
    refine gr_mmin X (by decide) wl_RX12_297 hc (Nat.le_of_ble_eq_true rfl) dX12_ways_171 ?_
    obtain ⟨h12, hf⟩ := gz_cke hf
    obtain ⟨M13, eM13, hf⟩ := gz_lte hf
    refine gr_iastore X gk_R29 (gz_inp h12) eM13 dX12_ways_174 ?_
    refine gr_aload_n X dX12_ways_175 1 rfl rfl ?_
    refine gf12_47 X wf_RX12_101 dX12_ways_176 ?_
    refine gr_iload X dX12_ways_179 4 rfl ?_
    refine gr_iconst 1 X dX12_ways_181 (by decide) ?_
    refine gr_iadd X dX12_ways_182 ?_
    obtain ⟨h14, hf⟩ := gz_cke hf
    refine gr_iaload X gk_R30 (gz_inp h14) dX12_ways_183 ?_
    refine gr_iconst (-1) X dX12_ways_184 (by decide) ?_
    refine gr_icmp_eq 208 X dX12_ways_185 (by decide) (fun h15 => ?_) (fun h15 => ?_)
    · rw [if_pos h15] at hf
      refine gr_sub (lv' := [(0, .ref (gx_ad x 0)), (2, .int x2), (3, .int x3), (4, .int v2), (5, .int x5)]) [1, 2, 3, 0, 4] rfl ?_
      exact b12_ways_208 X hc hE hc63 hc74 _ _ _ _ _ hf
    · rw [if_neg h15] at hf
      refine gr_aload_n X dX12_ways_188 1 rfl rfl ?_
      refine gf12_47 X wf_RX12_101 dX12_ways_189 ?_
      refine gr_iload_n X dX12_ways_192 3 rfl rfl ?_
      obtain ⟨h16, hf⟩ := gz_cke hf
      refine gr_iaload X gk_R30 (gz_inp h16) dX12_ways_193 ?_
      refine gr_iconst 1 X dX12_ways_194 (by decide) ?_
      refine gr_iadd X dX12_ways_195 ?_
      refine gr_aload_n X dX12_ways_196 1 rfl rfl ?_
      refine gf12_47 X wf_RX12_101 dX12_ways_197 ?_
      refine gr_iload X dX12_ways_200 4 rfl ?_
      refine gr_iconst 1 X dX12_ways_202 (by decide) ?_
      refine gr_iadd X dX12_ways_203 ?_
      obtain ⟨h17, hf⟩ := gz_cke hf
      refine gr_iaload X gk_R30 (gz_inp h17) dX12_ways_204 ?_
      refine gr_icmp_ge 225 X dX12_ways_205 (by decide) (fun h18 => ?_) (fun h18 => ?_)
      · rw [if_pos h18] at hf
        obtain ⟨v19, ev19, hf⟩ := gz_lte hf
        refine gr_iinc 1 [(5, .int v19), (4, .int v2), (0, .ref (gx_ad x 0)), (2, .int x2), (3, .int x3)] X dX12_ways_225 4 rfl (by decide) ev19 (by decide) rfl ?_
        refine gr_goto 74 X dX12_ways_228 (by decide) ?_
        refine gr_sub (lv' := [(0, .ref (gx_ad x 0)), (2, .int x2), (3, .int x3), (4, .int v2), (5, .int v19)]) [2, 3, 4, 1, 0] rfl ?_
        exact hc74 _ _ _ _ _ hf
      · rw [if_neg h18] at hf
        refine gr_sub (lv' := [(0, .ref (gx_ad x 0)), (2, .int x2), (3, .int x3), (4, .int v2), (5, .int x5)]) [1, 2, 3, 0, 4] rfl ?_
        exact b12_ways_208 X hc hE hc63 hc74 _ _ _ _ _ hf

def f12_ways_100 (c63 : Int32 → Int32 → gz_M → Option (Int32 × gz_M)) (c74 : Int32 → Int32 → Int32 → Int32 → gz_M → Option (Int32 × gz_M)) (x2 : Int32) (x3 : Int32) (x4 : Int32) (x5 : Int32) (M0 : gz_M) : Option (Int32 × gz_M) := if x5 = x3 then (f12_ways_115 c63 c74 x2 x3 x5 1 x4 0 M0) else (f12_ways_115 c63 c74 x2 x3 x5 0 x4 0 M0)
theorem b12_ways_100 {x : gz_X} {pf : Nat → Bool} {l : Launch} {r : Int32} {M' : gz_M} (X : gz_Ok x cX12_ways RX12 6 2 gz_cfR pf l) (hc : gx_cells x ≤ (gx_R x).cells ∧ gx_slots x ≤ (gx_R x).slots) (hE : gz_EI x cX12_ways .int r M') {c63 : Int32 → Int32 → gz_M → Option (Int32 × gz_M)} (hc63 : ∀ (x2 : Int32) (x3 : Int32) (M0 : gz_M), c63 x2 x3 M0 = some (r, M') → gz_At x 63 [(0, .ref (gx_ad x 0)), (2, .int x2), (3, .int x3)] [] M0) {c74 : Int32 → Int32 → Int32 → Int32 → gz_M → Option (Int32 × gz_M)} (hc74 : ∀ (x2 : Int32) (x3 : Int32) (x4 : Int32) (x5 : Int32) (M0 : gz_M), c74 x2 x3 x4 x5 M0 = some (r, M') → gz_At x 74 [(0, .ref (gx_ad x 0)), (2, .int x2), (3, .int x3), (4, .int x4), (5, .int x5)] [] M0) : ∀ (x2 : Int32) (x3 : Int32) (x4 : Int32) (x5 : Int32) (M0 : gz_M), f12_ways_100 c63 c74 x2 x3 x4 x5 M0 = some (r, M') → gz_At x 100 [(0, .ref (gx_ad x 0)), (2, .int x2), (3, .int x3), (4, .int x4), (5, .int x5)] [] M0 := by
  intro x2 x3 x4 x5 M0  hf
  rw [f12_ways_100] at hf
  refine gr_aload_n X dX12_ways_100 0 rfl rfl ?_
  refine gr_iconst 0 X dX12_ways_101 (by decide) ?_
  refine gr_iload X dX12_ways_102 3 rfl ?_
  refine gr_iload X dX12_ways_104 4 rfl ?_
  refine gr_iload_n X dX12_ways_106 2 rfl rfl ?_
  refine gr_icmp_ne 114 X dX12_ways_107 (by decide) (fun h1 => ?_) (fun h1 => ?_)
  · rw [if_pos h1] at hf
    refine gr_iconst 1 X dX12_ways_110 (by decide) ?_
    refine gr_goto 115 X dX12_ways_111 (by decide) ?_
    refine gr_sub (lv' := [(0, .ref (gx_ad x 0)), (2, .int x2), (3, .int x3), (5, .int x5)]) [0, 1, 2, 4] rfl ?_
    exact b12_ways_115 X hc hE hc63 hc74 _ _ _ _ _ _ _ hf
  · rw [if_neg h1] at hf
    refine gr_iconst 0 X dX12_ways_114 (by decide) ?_
    refine gr_sub (lv' := [(0, .ref (gx_ad x 0)), (2, .int x2), (3, .int x3), (5, .int x5)]) [0, 1, 2, 4] rfl ?_
    exact b12_ways_115 X hc hE hc63 hc74 _ _ _ _ _ _ _ hf

def f12_ways_74 (c63 : Int32 → Int32 → gz_M → Option (Int32 × gz_M)) : Nat → Int32 → Int32 → Int32 → Int32 → gz_M → Option (Int32 × gz_M)
  | 0, _, _, _, _, _ => none
  | n + 1, x2, x3, x4, x5, M0 => if x2 ≤ x5 then (gz_lt (x3 + 1) fun v2 => c63 x2 v2 M0) else (gz_ck (gz_inb x3 25) <| if (M0.1 29 x3.toNatClampNeg) ≤ 0 then (gz_lt (x3 + 1) fun v5 => c63 x2 v5 M0) else (if x5 = x3 then (f12_ways_100 c63 (f12_ways_74 c63 n) x2 x3 x4 x5 M0) else (if x4 = 0 then (gz_lt (x3 + 1) fun v8 => c63 x2 v8 M0) else (f12_ways_100 c63 (f12_ways_74 c63 n) x2 x3 x4 x5 M0))))
theorem b12_ways_74 {x : gz_X} {pf : Nat → Bool} {l : Launch} {r : Int32} {M' : gz_M} (X : gz_Ok x cX12_ways RX12 6 2 gz_cfR pf l) (hc : gx_cells x ≤ (gx_R x).cells ∧ gx_slots x ≤ (gx_R x).slots) (hE : gz_EI x cX12_ways .int r M') {c63 : Int32 → Int32 → gz_M → Option (Int32 × gz_M)} (hc63 : ∀ (x2 : Int32) (x3 : Int32) (M0 : gz_M), c63 x2 x3 M0 = some (r, M') → gz_At x 63 [(0, .ref (gx_ad x 0)), (2, .int x2), (3, .int x3)] [] M0) : ∀ (n : Nat) (x2 : Int32) (x3 : Int32) (x4 : Int32) (x5 : Int32) (M0 : gz_M), f12_ways_74 c63 n x2 x3 x4 x5 M0 = some (r, M') → gz_At x 74 [(0, .ref (gx_ad x 0)), (2, .int x2), (3, .int x3), (4, .int x4), (5, .int x5)] [] M0 := by
  intro n
  induction n with
  | zero =>
    intro x2 x3 x4 x5 M0  hf
    rw [f12_ways_74] at hf
    cases hf
  | succ n ih =>
    intro x2 x3 x4 x5 M0  hf
    rw [f12_ways_74] at hf
    refine gr_iload X dX12_ways_74 4 rfl ?_
    refine gr_iload_n X dX12_ways_76 1 rfl rfl ?_
    refine gr_icmp_ge 231 X dX12_ways_77 (by decide) (fun h1 => ?_) (fun h1 => ?_)
    · rw [if_pos h1] at hf
      obtain ⟨v2, ev2, hf⟩ := gz_lte hf
      refine gr_iinc 1 [(3, .int v2), (0, .ref (gx_ad x 0)), (2, .int x2), (4, .int x4), (5, .int x5)] X dX12_ways_231 2 rfl (by decide) ev2 (by decide) rfl ?_
      refine gr_goto 63 X dX12_ways_234 (by decide) ?_
      refine gr_sub (lv' := [(0, .ref (gx_ad x 0)), (2, .int x2), (3, .int v2)]) [1, 2, 0] rfl ?_
      exact hc63 _ _ _ hf
    · rw [if_neg h1] at hf
      refine gr_aload_n X dX12_ways_80 0 rfl rfl ?_
      refine gf12_46 X wf_RX12_98 dX12_ways_81 ?_
      refine gr_iload_n X dX12_ways_84 2 rfl rfl ?_
      obtain ⟨h3, hf⟩ := gz_cke hf
      refine gr_iaload X gk_R29 (gz_inp h3) dX12_ways_85 ?_
      refine gr_if_le 231 X dX12_ways_86 (by decide) (fun h4 => ?_) (fun h4 => ?_)
      · rw [if_pos h4] at hf
        obtain ⟨v5, ev5, hf⟩ := gz_lte hf
        refine gr_iinc 1 [(3, .int v5), (0, .ref (gx_ad x 0)), (2, .int x2), (4, .int x4), (5, .int x5)] X dX12_ways_231 2 rfl (by decide) ev5 (by decide) rfl ?_
        refine gr_goto 63 X dX12_ways_234 (by decide) ?_
        refine gr_sub (lv' := [(0, .ref (gx_ad x 0)), (2, .int x2), (3, .int v5)]) [1, 2, 0] rfl ?_
        exact hc63 _ _ _ hf
      · rw [if_neg h4] at hf
        refine gr_iload X dX12_ways_89 4 rfl ?_
        refine gr_iload_n X dX12_ways_91 2 rfl rfl ?_
        refine gr_icmp_eq 100 X dX12_ways_92 (by decide) (fun h6 => ?_) (fun h6 => ?_)
        · rw [if_pos h6] at hf
          exact b12_ways_100 X hc hE hc63 ih _ _ _ _ _ hf
        · rw [if_neg h6] at hf
          refine gr_iload X dX12_ways_95 3 rfl ?_
          refine gr_if_eq 231 X dX12_ways_97 (by decide) (fun h7 => ?_) (fun h7 => ?_)
          · rw [if_pos h7] at hf
            obtain ⟨v8, ev8, hf⟩ := gz_lte hf
            refine gr_iinc 1 [(3, .int v8), (0, .ref (gx_ad x 0)), (2, .int x2), (4, .int x4), (5, .int x5)] X dX12_ways_231 2 rfl (by decide) ev8 (by decide) rfl ?_
            refine gr_goto 63 X dX12_ways_234 (by decide) ?_
            refine gr_sub (lv' := [(0, .ref (gx_ad x 0)), (2, .int x2), (3, .int v8)]) [1, 2, 0] rfl ?_
            exact hc63 _ _ _ hf
          · rw [if_neg h7] at hf
            exact b12_ways_100 X hc hE hc63 ih _ _ _ _ _ hf

def f12_ways_63 : Nat → Int32 → Int32 → gz_M → Option (Int32 × gz_M)
  | 0, _, _, _ => none
  | n + 1, x2, x3, M0 => if x2 ≤ x3 then (gz_lt (gz_w M0 0 4 0) fun M2 => gz_ck (gz_inb x2 25) <| gz_bd (f12_tell ((M2.1 30 x2.toNatClampNeg).toInt64) M2) fun M4 => gz_ck (gz_inb x2 25) <| some (M4.1 29 x2.toNatClampNeg, M4)) else (f12_ways_74 (f12_ways_63 n) gz_FU x2 x3 0 x3 M0)
theorem b12_ways_63 {x : gz_X} {pf : Nat → Bool} {l : Launch} {r : Int32} {M' : gz_M} (X : gz_Ok x cX12_ways RX12 6 2 gz_cfR pf l) (hc : gx_cells x ≤ (gx_R x).cells ∧ gx_slots x ≤ (gx_R x).slots) (hE : gz_EI x cX12_ways .int r M') : ∀ (n : Nat) (x2 : Int32) (x3 : Int32) (M0 : gz_M), f12_ways_63 n x2 x3 M0 = some (r, M') → gz_At x 63 [(0, .ref (gx_ad x 0)), (2, .int x2), (3, .int x3)] [] M0 := by
  intro n
  induction n with
  | zero =>
    intro x2 x3 M0  hf
    rw [f12_ways_63] at hf
    cases hf
  | succ n ih =>
    intro x2 x3 M0  hf
    rw [f12_ways_63] at hf
    refine gr_iload_n X dX12_ways_63 2 rfl rfl ?_
    refine gr_iload_n X dX12_ways_64 1 rfl rfl ?_
    refine gr_icmp_ge 237 X dX12_ways_65 (by decide) (fun h1 => ?_) (fun h1 => ?_)
    · rw [if_pos h1] at hf
      refine gr_aload_n X dX12_ways_237 0 rfl rfl ?_
      refine gr_iconst 0 X dX12_ways_238 (by decide) ?_
      obtain ⟨M2, eM2, hf⟩ := gz_lte hf
      refine gp12_4 X wf_RX12_127 eM2 dX12_ways_239 ?_
      refine gr_aload_n X dX12_ways_242 0 rfl rfl ?_
      refine gr_aload_n X dX12_ways_243 0 rfl rfl ?_
      refine gf12_47 X wf_RX12_101 dX12_ways_244 ?_
      refine gr_iload_n X dX12_ways_247 1 rfl rfl ?_
      obtain ⟨h3, hf⟩ := gz_cke hf
      refine gr_iaload X gk_R30 (gz_inp h3) dX12_ways_248 ?_
      refine gr_i2l X dX12_ways_249 ?_
      obtain ⟨M4, q5, hf⟩ := gz_bde hf
      refine gr_callV (asF := fun ad => [.ref (ad 0), .long ((M2.1 30 x2.toNatClampNeg).toInt64)]) [.long ((M2.1 30 x2.toNatClampNeg).toInt64)] X (c12_tell q5) rfl wm_RX12_280 rfl (X.kd gk_R0).1 ((X.kd gk_R0).2 _ _ _ _) rfl (by decide) (by decide) rfl (Nat.le_of_ble_eq_true rfl) hc dX12_ways_250 ?_
      refine gr_aload_n X dX12_ways_253 0 rfl rfl ?_
      refine gf12_46 X wf_RX12_98 dX12_ways_254 ?_
      refine gr_iload_n X dX12_ways_257 1 rfl rfl ?_
      obtain ⟨h6, hf⟩ := gz_cke hf
      refine gr_iaload X gk_R29 (gz_inp h6) dX12_ways_258 ?_
      exact gz_EIu hE hf rfl dX12_ways_259
    · rw [if_neg h1] at hf
      refine gr_iconst 0 X dX12_ways_68 (by decide) ?_
      refine gr_istore [(4, .int 0), (0, .ref (gx_ad x 0)), (2, .int x2), (3, .int x3)] X dX12_ways_69 rfl (by decide) rfl ?_
      refine gr_iload_n X dX12_ways_71 3 rfl rfl ?_
      refine gr_istore [(5, .int x3), (4, .int 0), (0, .ref (gx_ad x 0)), (2, .int x2), (3, .int x3)] X dX12_ways_72 rfl (by decide) rfl ?_
      refine gr_sub (lv' := [(0, .ref (gx_ad x 0)), (2, .int x2), (3, .int x3), (4, .int 0), (5, .int x3)]) [2, 3, 4, 1, 0] rfl ?_
      exact b12_ways_74 X hc hE ih _ _ _ _ _ _ hf

def f12_ways_38 (c18 : Int32 → Int32 → Int32 → gz_M → Option (Int32 × gz_M)) (x1 : Int32) (x2 : Int32) (x3 : Int32) (s0 : Int32) (s1 : Int32) (M0 : gz_M) : Option (Int32 × gz_M) := gz_ck (gz_inb s1 25) <| gz_lt (gz_w M0 29 s1.toNatClampNeg s0) fun M2 => if x3 = x1 then (gz_ck (gz_inb x3 25) <| gz_lt (gz_w M2 30 x3.toNatClampNeg 0) fun M5 => gz_lt (x3 + 1) fun v6 => c18 x1 x2 v6 M5) else (gz_ck (gz_inb x3 25) <| gz_lt (gz_w M2 30 x3.toNatClampNeg (-1)) fun M8 => gz_lt (x3 + 1) fun v9 => c18 x1 x2 v9 M8)
theorem b12_ways_38 {x : gz_X} {pf : Nat → Bool} {l : Launch} {r : Int32} {M' : gz_M} (X : gz_Ok x cX12_ways RX12 6 2 gz_cfR pf l) (hc : gx_cells x ≤ (gx_R x).cells ∧ gx_slots x ≤ (gx_R x).slots) (hE : gz_EI x cX12_ways .int r M') {c18 : Int32 → Int32 → Int32 → gz_M → Option (Int32 × gz_M)} (hc18 : ∀ (x1 : Int32) (x2 : Int32) (x3 : Int32) (M0 : gz_M), c18 x1 x2 x3 M0 = some (r, M') → gz_At x 18 [(0, .ref (gx_ad x 0)), (1, .int x1), (2, .int x2), (3, .int x3)] [] M0) : ∀ (x1 : Int32) (x2 : Int32) (x3 : Int32) (s0 : Int32) (s1 : Int32) (M0 : gz_M), f12_ways_38 c18 x1 x2 x3 s0 s1 M0 = some (r, M') → gz_At x 38 [(0, .ref (gx_ad x 0)), (1, .int x1), (2, .int x2), (3, .int x3)] [.int s0, .int s1, .ref (gx_ad x 29)] M0 := by
  intro x1 x2 x3 s0 s1 M0  hf
  rw [f12_ways_38] at hf
  obtain ⟨h1, hf⟩ := gz_cke hf
  obtain ⟨M2, eM2, hf⟩ := gz_lte hf
  refine gr_iastore X gk_R29 (gz_inp h1) eM2 dX12_ways_38 ?_
  refine gr_aload_n X dX12_ways_39 0 rfl rfl ?_
  refine gf12_47 X wf_RX12_101 dX12_ways_40 ?_
  refine gr_iload_n X dX12_ways_43 3 rfl rfl ?_
  refine gr_iload_n X dX12_ways_44 3 rfl rfl ?_
  refine gr_iload_n X dX12_ways_45 1 rfl rfl ?_
  refine gr_icmp_ne 53 X dX12_ways_46 (by decide) (fun h3 => ?_) (fun h3 => ?_)
  · rw [if_pos h3] at hf
    refine gr_iconst 0 X dX12_ways_49 (by decide) ?_
    refine gr_goto 54 X dX12_ways_50 (by decide) ?_
    obtain ⟨h4, hf⟩ := gz_cke hf
    obtain ⟨M5, eM5, hf⟩ := gz_lte hf
    refine gr_iastore X gk_R30 (gz_inp h4) eM5 dX12_ways_54 ?_
    obtain ⟨v6, ev6, hf⟩ := gz_lte hf
    refine gr_iinc 1 [(3, .int v6), (0, .ref (gx_ad x 0)), (1, .int x1), (2, .int x2)] X dX12_ways_55 3 rfl (by decide) ev6 (by decide) rfl ?_
    refine gr_goto 18 X dX12_ways_58 (by decide) ?_
    refine gr_sub (lv' := [(0, .ref (gx_ad x 0)), (1, .int x1), (2, .int x2), (3, .int v6)]) [1, 2, 3, 0] rfl ?_
    exact hc18 _ _ _ _ hf
  · rw [if_neg h3] at hf
    refine gr_iconst (-1) X dX12_ways_53 (by decide) ?_
    obtain ⟨h7, hf⟩ := gz_cke hf
    obtain ⟨M8, eM8, hf⟩ := gz_lte hf
    refine gr_iastore X gk_R30 (gz_inp h7) eM8 dX12_ways_54 ?_
    obtain ⟨v9, ev9, hf⟩ := gz_lte hf
    refine gr_iinc 1 [(3, .int v9), (0, .ref (gx_ad x 0)), (1, .int x1), (2, .int x2)] X dX12_ways_55 3 rfl (by decide) ev9 (by decide) rfl ?_
    refine gr_goto 18 X dX12_ways_58 (by decide) ?_
    refine gr_sub (lv' := [(0, .ref (gx_ad x 0)), (1, .int x1), (2, .int x2), (3, .int v9)]) [1, 2, 3, 0] rfl ?_
    exact hc18 _ _ _ _ hf

def f12_ways_18 : Nat → Int32 → Int32 → Int32 → gz_M → Option (Int32 × gz_M)
  | 0, _, _, _, _ => none
  | n + 1, x1, x2, x3, M0 => if x2 < x3 then (f12_ways_63 gz_FU x2 x1 M0) else (if x3 = x1 then (f12_ways_38 (f12_ways_18 n) x1 x2 x3 1 x3 M0) else (f12_ways_38 (f12_ways_18 n) x1 x2 x3 0 x3 M0))
theorem b12_ways_18 {x : gz_X} {pf : Nat → Bool} {l : Launch} {r : Int32} {M' : gz_M} (X : gz_Ok x cX12_ways RX12 6 2 gz_cfR pf l) (hc : gx_cells x ≤ (gx_R x).cells ∧ gx_slots x ≤ (gx_R x).slots) (hE : gz_EI x cX12_ways .int r M') : ∀ (n : Nat) (x1 : Int32) (x2 : Int32) (x3 : Int32) (M0 : gz_M), f12_ways_18 n x1 x2 x3 M0 = some (r, M') → gz_At x 18 [(0, .ref (gx_ad x 0)), (1, .int x1), (2, .int x2), (3, .int x3)] [] M0 := by
  intro n
  induction n with
  | zero =>
    intro x1 x2 x3 M0  hf
    rw [f12_ways_18] at hf
    cases hf
  | succ n ih =>
    intro x1 x2 x3 M0  hf
    rw [f12_ways_18] at hf
    refine gr_iload_n X dX12_ways_18 3 rfl rfl ?_
    refine gr_iload_n X dX12_ways_19 2 rfl rfl ?_
    refine gr_icmp_gt 61 X dX12_ways_20 (by decide) (fun h1 => ?_) (fun h1 => ?_)
    · rw [if_pos h1] at hf
      refine gr_iload_n X dX12_ways_61 1 rfl rfl ?_
      refine gr_istore_n [(3, .int x1), (0, .ref (gx_ad x 0)), (1, .int x1), (2, .int x2)] X dX12_ways_62 rfl rfl (by decide) rfl ?_
      refine gr_sub (lv' := [(0, .ref (gx_ad x 0)), (2, .int x2), (3, .int x1)]) [1, 3, 0] rfl ?_
      exact b12_ways_63 X hc hE _ _ _ _ hf
    · rw [if_neg h1] at hf
      refine gr_aload_n X dX12_ways_23 0 rfl rfl ?_
      refine gf12_46 X wf_RX12_98 dX12_ways_24 ?_
      refine gr_iload_n X dX12_ways_27 3 rfl rfl ?_
      refine gr_iload_n X dX12_ways_28 3 rfl rfl ?_
      refine gr_iload_n X dX12_ways_29 1 rfl rfl ?_
      refine gr_icmp_ne 37 X dX12_ways_30 (by decide) (fun h2 => ?_) (fun h2 => ?_)
      · rw [if_pos h2] at hf
        refine gr_iconst 1 X dX12_ways_33 (by decide) ?_
        refine gr_goto 38 X dX12_ways_34 (by decide) ?_
        exact b12_ways_38 X hc hE ih _ _ _ _ _ _ hf
      · rw [if_neg h2] at hf
        refine gr_iconst 0 X dX12_ways_37 (by decide) ?_
        exact b12_ways_38 X hc hE ih _ _ _ _ _ _ hf

def f12_ways (a0 : Int32) (a1 : Int32) (M0 : gz_M) : Option (Int32 × gz_M) := gz_lt (gz_w M0 0 5 0) fun M1 => gz_bd2 (f12_isStretch a0 a1 M1) fun v2 M3 => if v2 = 0 then (some ((-1), M3)) else (f12_ways_18 gz_FU a0 a1 a0 M3)
set_option maxRecDepth 100000 in
theorem c12_ways {pf : Nat → Bool} {l : Launch} {r : Int32} {M0 M' : gz_M} {a0 : Int32} {a1 : Int32} (hf : f12_ways a0 a1 M0 = some (r, M')) : gz_CI l gz_cfR yX12_ways cX12_ways 6 2 .int (fun ad => [.ref (ad 0), .int a0, .int a1]) pf M0 r M' := by
  refine gz_ofI (by decide +kernel) (fun _ => Nat.le_of_ble_eq_true rfl) (fun x X hc hE => ?_)
  show gz_At x 0 [(0, .ref (gx_ad x 0)), (1, .int a0), (2, .int a1)] [] M0
  unfold f12_ways at hf
  refine gr_aload_n X dX12_ways_0 0 rfl rfl ?_
  refine gr_iconst 0 X dX12_ways_1 (by decide) ?_
  obtain ⟨M1, eM1, hf⟩ := gz_lte hf
  refine gp12_5 X wf_RX12_123 eM1 dX12_ways_2 ?_
  refine gr_aload_n X dX12_ways_5 0 rfl rfl ?_
  refine gr_iload_n X dX12_ways_6 1 rfl rfl ?_
  refine gr_iload_n X dX12_ways_7 2 rfl rfl ?_
  obtain ⟨v2, M3, q4, hf⟩ := gz_bd2e hf
  refine gr_callI (asF := fun ad => [.ref (ad 0), .int a0, .int a1]) [.int a0, .int a1] X (c12_isStretch q4) rfl wm_RX12_306 rfl (X.kd gk_R0).1 ((X.kd gk_R0).2 _ _ _ _) rfl (by decide) (by decide) rfl (Nat.le_of_ble_eq_true rfl) hc dX12_ways_8 ?_
  refine gr_if_ne 16 X dX12_ways_11 (by decide) (fun h5 => ?_) (fun h5 => ?_)
  · rw [if_pos h5] at hf
    refine gr_iconst (-1) X dX12_ways_14 (by decide) ?_
    exact gz_EIu hE hf rfl dX12_ways_15
  · rw [if_neg h5] at hf
    refine gr_iload_n X dX12_ways_16 1 rfl rfl ?_
    refine gr_istore_n [(3, .int a0), (0, .ref (gx_ad x 0)), (1, .int a0), (2, .int a1)] X dX12_ways_17 rfl rfl (by decide) rfl ?_
    refine gr_sub (lv' := [(0, .ref (gx_ad x 0)), (1, .int a0), (2, .int a1), (3, .int a0)]) [1, 2, 3, 0] rfl ?_
    exact b12_ways_18 X hc hE _ _ _ _ _ hf

def f12_fewest_198 : Nat → Int32 → Int32 → Int32 → gz_M → Option (Int32 × gz_M)
  | 0, _, _, _, _ => none
  | n + 1, x1, x2, x3, M0 => if x2 ≤ x3 then (gz_ck (gz_inb x1 25) <| some (M0.1 31 x1.toNatClampNeg, M0)) else (gz_ck (gz_inb x3 25) <| gz_bd (f12_tell ((M0.1 32 x3.toNatClampNeg).toInt64) M0) fun M4 => gz_ck (gz_inb x3 25) <| gz_lt (M4.1 32 x3.toNatClampNeg) fun v7 => f12_fewest_198 n x1 x2 v7 M4)
theorem b12_fewest_198 {x : gz_X} {pf : Nat → Bool} {l : Launch} {r : Int32} {M' : gz_M} (X : gz_Ok x cX12_fewest RX12 7 2 gz_cfR pf l) (hc : gx_cells x ≤ (gx_R x).cells ∧ gx_slots x ≤ (gx_R x).slots) (hE : gz_EI x cX12_fewest .int r M') : ∀ (n : Nat) (x1 : Int32) (x2 : Int32) (x3 : Int32) (M0 : gz_M), f12_fewest_198 n x1 x2 x3 M0 = some (r, M') → gz_At x 198 [(0, .ref (gx_ad x 0)), (1, .int x1), (2, .int x2), (3, .int x3)] [] M0 := by
  intro n
  induction n with
  | zero =>
    intro x1 x2 x3 M0  hf
    rw [f12_fewest_198] at hf
    cases hf
  | succ n ih =>
    intro x1 x2 x3 M0  hf
    rw [f12_fewest_198] at hf
    refine gr_iload_n X dX12_fewest_198 3 rfl rfl ?_
    refine gr_iload_n X dX12_fewest_199 2 rfl rfl ?_
    refine gr_icmp_ge 224 X dX12_fewest_200 (by decide) (fun h1 => ?_) (fun h1 => ?_)
    · rw [if_pos h1] at hf
      refine gr_aload_n X dX12_fewest_224 0 rfl rfl ?_
      refine gf12_48 X wf_RX12_104 dX12_fewest_225 ?_
      refine gr_iload_n X dX12_fewest_228 1 rfl rfl ?_
      obtain ⟨h2, hf⟩ := gz_cke hf
      refine gr_iaload X gk_R31 (gz_inp h2) dX12_fewest_229 ?_
      exact gz_EIu hE hf rfl dX12_fewest_230
    · rw [if_neg h1] at hf
      refine gr_aload_n X dX12_fewest_203 0 rfl rfl ?_
      refine gr_aload_n X dX12_fewest_204 0 rfl rfl ?_
      refine gf12_49 X wf_RX12_107 dX12_fewest_205 ?_
      refine gr_iload_n X dX12_fewest_208 3 rfl rfl ?_
      obtain ⟨h3, hf⟩ := gz_cke hf
      refine gr_iaload X gk_R32 (gz_inp h3) dX12_fewest_209 ?_
      refine gr_i2l X dX12_fewest_210 ?_
      obtain ⟨M4, q5, hf⟩ := gz_bde hf
      refine gr_callV (asF := fun ad => [.ref (ad 0), .long ((M0.1 32 x3.toNatClampNeg).toInt64)]) [.long ((M0.1 32 x3.toNatClampNeg).toInt64)] X (c12_tell q5) rfl wm_RX12_280 rfl (X.kd gk_R0).1 ((X.kd gk_R0).2 _ _ _ _) rfl (by decide) (by decide) rfl (Nat.le_of_ble_eq_true rfl) hc dX12_fewest_211 ?_
      refine gr_aload_n X dX12_fewest_214 0 rfl rfl ?_
      refine gf12_49 X wf_RX12_107 dX12_fewest_215 ?_
      refine gr_iload_n X dX12_fewest_218 3 rfl rfl ?_
      obtain ⟨h6, hf⟩ := gz_cke hf
      refine gr_iaload X gk_R32 (gz_inp h6) dX12_fewest_219 ?_
      obtain ⟨v7, ev7, hf⟩ := gz_lte hf
      refine gr_istore_n [(3, .int v7), (0, .ref (gx_ad x 0)), (1, .int x1), (2, .int x2)] X dX12_fewest_220 ev7 rfl (by decide) rfl ?_
      refine gr_goto 198 X dX12_fewest_221 (by decide) ?_
      refine gr_sub (lv' := [(0, .ref (gx_ad x 0)), (1, .int x1), (2, .int x2), (3, .int v7)]) [1, 2, 3, 0] rfl ?_
      exact ih _ _ _ _ hf

def f12_fewest_146 (c18 : Int32 → Int32 → Int32 → gz_M → Option (Int32 × gz_M)) (c45 : Int32 → Int32 → Int32 → Int32 → Int32 → gz_M → Option (Int32 × gz_M)) (x1 : Int32) (x2 : Int32) (x3 : Int32) (x4 : Int32) (x5 : Int32) (x6 : Int32) (M0 : gz_M) : Option (Int32 × gz_M) := gz_ck (gz_inb x3 25) <| gz_lt (gz_w M0 31 x3.toNatClampNeg (x6 + 1)) fun M2 => gz_ck (gz_inb x3 25) <| gz_lt (gz_w M2 32 x3.toNatClampNeg (x5 + 1)) fun M4 => gz_lt (x5 + 1) fun v5 => c45 x1 x2 x3 x4 v5 M4
theorem b12_fewest_146 {x : gz_X} {pf : Nat → Bool} {l : Launch} {r : Int32} {M' : gz_M} (X : gz_Ok x cX12_fewest RX12 7 2 gz_cfR pf l) (hc : gx_cells x ≤ (gx_R x).cells ∧ gx_slots x ≤ (gx_R x).slots) (hE : gz_EI x cX12_fewest .int r M') {c18 : Int32 → Int32 → Int32 → gz_M → Option (Int32 × gz_M)} (hc18 : ∀ (x1 : Int32) (x2 : Int32) (x3 : Int32) (M0 : gz_M), c18 x1 x2 x3 M0 = some (r, M') → gz_At x 18 [(0, .ref (gx_ad x 0)), (1, .int x1), (2, .int x2), (3, .int x3)] [] M0) {c45 : Int32 → Int32 → Int32 → Int32 → Int32 → gz_M → Option (Int32 × gz_M)} (hc45 : ∀ (x1 : Int32) (x2 : Int32) (x3 : Int32) (x4 : Int32) (x5 : Int32) (M0 : gz_M), c45 x1 x2 x3 x4 x5 M0 = some (r, M') → gz_At x 45 [(0, .ref (gx_ad x 0)), (1, .int x1), (2, .int x2), (3, .int x3), (4, .int x4), (5, .int x5)] [] M0) : ∀ (x1 : Int32) (x2 : Int32) (x3 : Int32) (x4 : Int32) (x5 : Int32) (x6 : Int32) (M0 : gz_M), f12_fewest_146 c18 c45 x1 x2 x3 x4 x5 x6 M0 = some (r, M') → gz_At x 146 [(0, .ref (gx_ad x 0)), (1, .int x1), (2, .int x2), (3, .int x3), (4, .int x4), (5, .int x5), (6, .int x6)] [] M0 := by
  intro x1 x2 x3 x4 x5 x6 M0  hf
  rw [f12_fewest_146] at hf
  refine gr_aload_n X dX12_fewest_146 0 rfl rfl ?_
  refine gf12_48 X wf_RX12_104 dX12_fewest_147 ?_
  refine gr_iload_n X dX12_fewest_150 3 rfl rfl ?_
  refine gr_iload X dX12_fewest_151 6 rfl ?_
  refine gr_iconst 1 X dX12_fewest_153 (by decide) ?_
  refine gr_iadd X dX12_fewest_154 ?_
  obtain ⟨h1, hf⟩ := gz_cke hf
  obtain ⟨M2, eM2, hf⟩ := gz_lte hf
  refine gr_iastore X gk_R31 (gz_inp h1) eM2 dX12_fewest_155 ?_
  refine gr_aload_n X dX12_fewest_156 0 rfl rfl ?_
  refine gf12_49 X wf_RX12_107 dX12_fewest_157 ?_
  refine gr_iload_n X dX12_fewest_160 3 rfl rfl ?_
  refine gr_iload X dX12_fewest_161 5 rfl ?_
  refine gr_iconst 1 X dX12_fewest_163 (by decide) ?_
  refine gr_iadd X dX12_fewest_164 ?_
  obtain ⟨h3, hf⟩ := gz_cke hf
  obtain ⟨M4, eM4, hf⟩ := gz_lte hf
  refine gr_iastore X gk_R32 (gz_inp h3) eM4 dX12_fewest_165 ?_
  obtain ⟨v5, ev5, hf⟩ := gz_lte hf
  refine gr_iinc 1 [(5, .int v5), (0, .ref (gx_ad x 0)), (1, .int x1), (2, .int x2), (3, .int x3), (4, .int x4), (6, .int x6)] X dX12_fewest_166 5 rfl (by decide) ev5 (by decide) rfl ?_
  refine gr_goto 45 X dX12_fewest_169 (by decide) ?_
  refine gr_sub (lv' := [(0, .ref (gx_ad x 0)), (1, .int x1), (2, .int x2), (3, .int x3), (4, .int x4), (5, .int v5)]) [1, 2, 3, 4, 5, 0] rfl ?_
  exact hc45 _ _ _ _ _ _ hf

def f12_fewest_77 (c18 : Int32 → Int32 → Int32 → gz_M → Option (Int32 × gz_M)) (c45 : Int32 → Int32 → Int32 → Int32 → Int32 → gz_M → Option (Int32 × gz_M)) (x1 : Int32) (x2 : Int32) (x3 : Int32) (x5 : Int32) (s0 : Int32) (s1 : Int32) (s2 : Int32) (M0 : gz_M) : Option (Int32 × gz_M) := gz_ck (gz_inb (82 + x5) 106) <| gz_bd2 (f12_step s2 s1 s0 (M0.1 1 (82 + x5).toNatClampNeg) M0) fun v2 M3 => gz_ck (gz_inb (x5 + 1) 25) <| gz_lt (M3.1 31 (x5 + 1).toNatClampNeg) fun v6 => gz_bd2 (f12_winner 0 v2 M3) fun v7 M8 => if v7 = (-1) then (gz_lt (x5 + 1) fun v11 => c45 x1 x2 x3 v2 v11 M8) else (if v6 = (-1) then (gz_lt (x5 + 1) fun v13 => c45 x1 x2 x3 v2 v13 M8) else (gz_ck (gz_inb x3 25) <| if (M8.1 31 x3.toNatClampNeg) = (-1) then (f12_fewest_146 c18 c45 x1 x2 x3 v2 x5 v6 M8) else (gz_ck (gz_inb x3 25) <| if (v6 + 1) < (M8.1 31 x3.toNatClampNeg) then (f12_fewest_146 c18 c45 x1 x2 x3 v2 x5 v6 M8) else (gz_lt (x5 + 1) fun v18 => c45 x1 x2 x3 v2 v18 M8))))
theorem b12_fewest_77 {x : gz_X} {pf : Nat → Bool} {l : Launch} {r : Int32} {M' : gz_M} (X : gz_Ok x cX12_fewest RX12 7 2 gz_cfR pf l) (hc : gx_cells x ≤ (gx_R x).cells ∧ gx_slots x ≤ (gx_R x).slots) (hE : gz_EI x cX12_fewest .int r M') {c18 : Int32 → Int32 → Int32 → gz_M → Option (Int32 × gz_M)} (hc18 : ∀ (x1 : Int32) (x2 : Int32) (x3 : Int32) (M0 : gz_M), c18 x1 x2 x3 M0 = some (r, M') → gz_At x 18 [(0, .ref (gx_ad x 0)), (1, .int x1), (2, .int x2), (3, .int x3)] [] M0) {c45 : Int32 → Int32 → Int32 → Int32 → Int32 → gz_M → Option (Int32 × gz_M)} (hc45 : ∀ (x1 : Int32) (x2 : Int32) (x3 : Int32) (x4 : Int32) (x5 : Int32) (M0 : gz_M), c45 x1 x2 x3 x4 x5 M0 = some (r, M') → gz_At x 45 [(0, .ref (gx_ad x 0)), (1, .int x1), (2, .int x2), (3, .int x3), (4, .int x4), (5, .int x5)] [] M0) : ∀ (x1 : Int32) (x2 : Int32) (x3 : Int32) (x5 : Int32) (s0 : Int32) (s1 : Int32) (s2 : Int32) (M0 : gz_M), f12_fewest_77 c18 c45 x1 x2 x3 x5 s0 s1 s2 M0 = some (r, M') → gz_At x 77 [(0, .ref (gx_ad x 0)), (1, .int x1), (2, .int x2), (3, .int x3), (5, .int x5)] [.int s0, .int s1, .int s2, .ref (gx_ad x 0)] M0 := by
  intro x1 x2 x3 x5 s0 s1 s2 M0  hf
  rw [f12_fewest_77] at hf
  refine gr_aload_n X dX12_fewest_77 0 rfl rfl ?_
  refine gf12_0 X wf_RX12_9 dX12_fewest_78 ?_
  refine gr_bipush 82 X dX12_fewest_81 (by decide) ?_
  refine gr_iload X dX12_fewest_83 4 rfl ?_
  refine gr_iadd X dX12_fewest_85 ?_
  obtain ⟨h1, hf⟩ := gz_cke hf
  refine gr_iaload X gk_R1 (gz_inp h1) dX12_fewest_86 ?_
  obtain ⟨v2, M3, q4, hf⟩ := gz_bd2e hf
  refine gr_callI (asF := fun ad => [.ref (ad 0), .int s2, .int s1, .int s0, .int (M0.1 1 (82 + x5).toNatClampNeg)]) [.int s2, .int s1, .int s0, .int (M0.1 1 (82 + x5).toNatClampNeg)] X (c12_step q4) rfl wm_RX12_250 rfl (X.kd gk_R0).1 ((X.kd gk_R0).2 _ _ _ _) rfl (by decide) (by decide) rfl (Nat.le_of_ble_eq_true rfl) hc dX12_fewest_87 ?_
  refine gr_istore [(4, .int v2), (0, .ref (gx_ad x 0)), (1, .int x1), (2, .int x2), (3, .int x3), (5, .int x5)] X dX12_fewest_90 rfl (by decide) rfl ?_
  refine gr_aload_n X dX12_fewest_92 1 rfl rfl ?_
  refine gf12_48 X wf_RX12_104 dX12_fewest_93 ?_
  refine gr_iload X dX12_fewest_96 5 rfl ?_
  refine gr_iconst 1 X dX12_fewest_98 (by decide) ?_
  refine gr_iadd X dX12_fewest_99 ?_
  obtain ⟨h5, hf⟩ := gz_cke hf
  refine gr_iaload X gk_R31 (gz_inp h5) dX12_fewest_100 ?_
  obtain ⟨v6, ev6, hf⟩ := gz_lte hf
  refine gr_istore [(6, .int v6), (4, .int v2), (0, .ref (gx_ad x 0)), (1, .int x1), (2, .int x2), (3, .int x3), (5, .int x5)] X dX12_fewest_101 ev6 (by decide) rfl ?_
  refine gr_aload_n X dX12_fewest_103 2 rfl rfl ?_
  refine gr_iconst 0 X dX12_fewest_104 (by decide) ?_
  refine gr_iload X dX12_fewest_105 1 rfl ?_
  obtain ⟨v7, M8, q9, hf⟩ := gz_bd2e hf
  refine gr_callI (asF := fun ad => [.ref (ad 0), .int 0, .int v2]) [.int 0, .int v2] X (c12_winner q9) rfl wm_RX12_258 rfl (X.kd gk_R0).1 ((X.kd gk_R0).2 _ _ _ _) rfl (by decide) (by decide) rfl (Nat.le_of_ble_eq_true rfl) hc dX12_fewest_107 ?_
  refine gr_iconst (-1) X dX12_fewest_110 (by decide) ?_
  refine gr_icmp_eq 166 X dX12_fewest_111 (by decide) (fun h10 => ?_) (fun h10 => ?_)
  · rw [if_pos h10] at hf
    obtain ⟨v11, ev11, hf⟩ := gz_lte hf
    refine gr_iinc 1 [(5, .int v11), (6, .int v6), (4, .int v2), (0, .ref (gx_ad x 0)), (1, .int x1), (2, .int x2), (3, .int x3)] X dX12_fewest_166 6 rfl (by decide) ev11 (by decide) rfl ?_
    refine gr_goto 45 X dX12_fewest_169 (by decide) ?_
    refine gr_sub (lv' := [(0, .ref (gx_ad x 0)), (1, .int x1), (2, .int x2), (3, .int x3), (4, .int v2), (5, .int v11)]) [3, 4, 5, 6, 2, 0] rfl ?_
    exact hc45 _ _ _ _ _ _ hf
  · rw [if_neg h10] at hf
    refine gr_iload X dX12_fewest_114 0 rfl ?_
    refine gr_iconst (-1) X dX12_fewest_116 (by decide) ?_
    refine gr_icmp_eq 166 X dX12_fewest_117 (by decide) (fun h12 => ?_) (fun h12 => ?_)
    · rw [if_pos h12] at hf
      obtain ⟨v13, ev13, hf⟩ := gz_lte hf
      refine gr_iinc 1 [(5, .int v13), (6, .int v6), (4, .int v2), (0, .ref (gx_ad x 0)), (1, .int x1), (2, .int x2), (3, .int x3)] X dX12_fewest_166 6 rfl (by decide) ev13 (by decide) rfl ?_
      refine gr_goto 45 X dX12_fewest_169 (by decide) ?_
      refine gr_sub (lv' := [(0, .ref (gx_ad x 0)), (1, .int x1), (2, .int x2), (3, .int x3), (4, .int v2), (5, .int v13)]) [3, 4, 5, 6, 2, 0] rfl ?_
      exact hc45 _ _ _ _ _ _ hf
    · rw [if_neg h12] at hf
      refine gr_aload_n X dX12_fewest_120 2 rfl rfl ?_
      refine gf12_48 X wf_RX12_104 dX12_fewest_121 ?_
      refine gr_iload_n X dX12_fewest_124 5 rfl rfl ?_
      obtain ⟨h14, hf⟩ := gz_cke hf
      refine gr_iaload X gk_R31 (gz_inp h14) dX12_fewest_125 ?_
      refine gr_iconst (-1) X dX12_fewest_126 (by decide) ?_
      refine gr_icmp_eq 146 X dX12_fewest_127 (by decide) (fun h15 => ?_) (fun h15 => ?_)
      · rw [if_pos h15] at hf
        refine gr_sub (lv' := [(0, .ref (gx_ad x 0)), (1, .int x1), (2, .int x2), (3, .int x3), (4, .int v2), (5, .int x5), (6, .int v6)]) [2, 3, 4, 5, 1, 6, 0] rfl ?_
        exact b12_fewest_146 X hc hE hc18 hc45 _ _ _ _ _ _ _ hf
      · rw [if_neg h15] at hf
        refine gr_aload_n X dX12_fewest_130 2 rfl rfl ?_
        refine gf12_48 X wf_RX12_104 dX12_fewest_131 ?_
        refine gr_iload_n X dX12_fewest_134 5 rfl rfl ?_
        obtain ⟨h16, hf⟩ := gz_cke hf
        refine gr_iaload X gk_R31 (gz_inp h16) dX12_fewest_135 ?_
        refine gr_iload X dX12_fewest_136 0 rfl ?_
        refine gr_iconst 1 X dX12_fewest_138 (by decide) ?_
        refine gr_iadd X dX12_fewest_139 ?_
        refine gr_icmp_gt 146 X dX12_fewest_140 (by decide) (fun h17 => ?_) (fun h17 => ?_)
        · rw [if_pos h17] at hf
          refine gr_sub (lv' := [(0, .ref (gx_ad x 0)), (1, .int x1), (2, .int x2), (3, .int x3), (4, .int v2), (5, .int x5), (6, .int v6)]) [2, 3, 4, 5, 1, 6, 0] rfl ?_
          exact b12_fewest_146 X hc hE hc18 hc45 _ _ _ _ _ _ _ hf
        · rw [if_neg h17] at hf
          refine gr_goto 166 X dX12_fewest_143 (by decide) ?_
          obtain ⟨v18, ev18, hf⟩ := gz_lte hf
          refine gr_iinc 1 [(5, .int v18), (6, .int v6), (4, .int v2), (0, .ref (gx_ad x 0)), (1, .int x1), (2, .int x2), (3, .int x3)] X dX12_fewest_166 6 rfl (by decide) ev18 (by decide) rfl ?_
          refine gr_goto 45 X dX12_fewest_169 (by decide) ?_
          refine gr_sub (lv' := [(0, .ref (gx_ad x 0)), (1, .int x1), (2, .int x2), (3, .int x3), (4, .int v2), (5, .int v18)]) [3, 4, 5, 6, 2, 0] rfl ?_
          exact hc45 _ _ _ _ _ _ hf

def f12_fewest_62 (c18 : Int32 → Int32 → Int32 → gz_M → Option (Int32 × gz_M)) (c45 : Int32 → Int32 → Int32 → Int32 → Int32 → gz_M → Option (Int32 × gz_M)) (x1 : Int32) (x2 : Int32) (x3 : Int32) (x4 : Int32) (x5 : Int32) (M0 : gz_M) : Option (Int32 × gz_M) := if x5 = x3 then (f12_fewest_77 c18 c45 x1 x2 x3 x5 1 x4 0 M0) else (f12_fewest_77 c18 c45 x1 x2 x3 x5 0 x4 0 M0)
theorem b12_fewest_62 {x : gz_X} {pf : Nat → Bool} {l : Launch} {r : Int32} {M' : gz_M} (X : gz_Ok x cX12_fewest RX12 7 2 gz_cfR pf l) (hc : gx_cells x ≤ (gx_R x).cells ∧ gx_slots x ≤ (gx_R x).slots) (hE : gz_EI x cX12_fewest .int r M') {c18 : Int32 → Int32 → Int32 → gz_M → Option (Int32 × gz_M)} (hc18 : ∀ (x1 : Int32) (x2 : Int32) (x3 : Int32) (M0 : gz_M), c18 x1 x2 x3 M0 = some (r, M') → gz_At x 18 [(0, .ref (gx_ad x 0)), (1, .int x1), (2, .int x2), (3, .int x3)] [] M0) {c45 : Int32 → Int32 → Int32 → Int32 → Int32 → gz_M → Option (Int32 × gz_M)} (hc45 : ∀ (x1 : Int32) (x2 : Int32) (x3 : Int32) (x4 : Int32) (x5 : Int32) (M0 : gz_M), c45 x1 x2 x3 x4 x5 M0 = some (r, M') → gz_At x 45 [(0, .ref (gx_ad x 0)), (1, .int x1), (2, .int x2), (3, .int x3), (4, .int x4), (5, .int x5)] [] M0) : ∀ (x1 : Int32) (x2 : Int32) (x3 : Int32) (x4 : Int32) (x5 : Int32) (M0 : gz_M), f12_fewest_62 c18 c45 x1 x2 x3 x4 x5 M0 = some (r, M') → gz_At x 62 [(0, .ref (gx_ad x 0)), (1, .int x1), (2, .int x2), (3, .int x3), (4, .int x4), (5, .int x5)] [] M0 := by
  intro x1 x2 x3 x4 x5 M0  hf
  rw [f12_fewest_62] at hf
  refine gr_aload_n X dX12_fewest_62 0 rfl rfl ?_
  refine gr_iconst 0 X dX12_fewest_63 (by decide) ?_
  refine gr_iload X dX12_fewest_64 4 rfl ?_
  refine gr_iload X dX12_fewest_66 5 rfl ?_
  refine gr_iload_n X dX12_fewest_68 3 rfl rfl ?_
  refine gr_icmp_ne 76 X dX12_fewest_69 (by decide) (fun h1 => ?_) (fun h1 => ?_)
  · rw [if_pos h1] at hf
    refine gr_iconst 1 X dX12_fewest_72 (by decide) ?_
    refine gr_goto 77 X dX12_fewest_73 (by decide) ?_
    refine gr_sub (lv' := [(0, .ref (gx_ad x 0)), (1, .int x1), (2, .int x2), (3, .int x3), (5, .int x5)]) [0, 1, 2, 3, 5] rfl ?_
    exact b12_fewest_77 X hc hE hc18 hc45 _ _ _ _ _ _ _ _ hf
  · rw [if_neg h1] at hf
    refine gr_iconst 0 X dX12_fewest_76 (by decide) ?_
    refine gr_sub (lv' := [(0, .ref (gx_ad x 0)), (1, .int x1), (2, .int x2), (3, .int x3), (5, .int x5)]) [0, 1, 2, 3, 5] rfl ?_
    exact b12_fewest_77 X hc hE hc18 hc45 _ _ _ _ _ _ _ _ hf

def f12_fewest_45 (c18 : Int32 → Int32 → Int32 → gz_M → Option (Int32 × gz_M)) : Nat → Int32 → Int32 → Int32 → Int32 → Int32 → gz_M → Option (Int32 × gz_M)
  | 0, _, _, _, _, _, _ => none
  | n + 1, x1, x2, x3, x4, x5, M0 => if x2 ≤ x5 then (gz_lt (x3 + (-1)) fun v2 => c18 x1 x2 v2 M0) else (if x5 = x3 then (f12_fewest_62 c18 (f12_fewest_45 c18 n) x1 x2 x3 x4 x5 M0) else (if x4 = 0 then (gz_lt (x3 + (-1)) fun v5 => c18 x1 x2 v5 M0) else (f12_fewest_62 c18 (f12_fewest_45 c18 n) x1 x2 x3 x4 x5 M0)))
theorem b12_fewest_45 {x : gz_X} {pf : Nat → Bool} {l : Launch} {r : Int32} {M' : gz_M} (X : gz_Ok x cX12_fewest RX12 7 2 gz_cfR pf l) (hc : gx_cells x ≤ (gx_R x).cells ∧ gx_slots x ≤ (gx_R x).slots) (hE : gz_EI x cX12_fewest .int r M') {c18 : Int32 → Int32 → Int32 → gz_M → Option (Int32 × gz_M)} (hc18 : ∀ (x1 : Int32) (x2 : Int32) (x3 : Int32) (M0 : gz_M), c18 x1 x2 x3 M0 = some (r, M') → gz_At x 18 [(0, .ref (gx_ad x 0)), (1, .int x1), (2, .int x2), (3, .int x3)] [] M0) : ∀ (n : Nat) (x1 : Int32) (x2 : Int32) (x3 : Int32) (x4 : Int32) (x5 : Int32) (M0 : gz_M), f12_fewest_45 c18 n x1 x2 x3 x4 x5 M0 = some (r, M') → gz_At x 45 [(0, .ref (gx_ad x 0)), (1, .int x1), (2, .int x2), (3, .int x3), (4, .int x4), (5, .int x5)] [] M0 := by
  intro n
  induction n with
  | zero =>
    intro x1 x2 x3 x4 x5 M0  hf
    rw [f12_fewest_45] at hf
    cases hf
  | succ n ih =>
    intro x1 x2 x3 x4 x5 M0  hf
    rw [f12_fewest_45] at hf
    refine gr_iload X dX12_fewest_45 5 rfl ?_
    refine gr_iload_n X dX12_fewest_47 2 rfl rfl ?_
    refine gr_icmp_ge 172 X dX12_fewest_48 (by decide) (fun h1 => ?_) (fun h1 => ?_)
    · rw [if_pos h1] at hf
      obtain ⟨v2, ev2, hf⟩ := gz_lte hf
      refine gr_iinc (-1) [(3, .int v2), (0, .ref (gx_ad x 0)), (1, .int x1), (2, .int x2), (4, .int x4), (5, .int x5)] X dX12_fewest_172 3 rfl (by decide) ev2 (by decide) rfl ?_
      refine gr_goto 18 X dX12_fewest_175 (by decide) ?_
      refine gr_sub (lv' := [(0, .ref (gx_ad x 0)), (1, .int x1), (2, .int x2), (3, .int v2)]) [1, 2, 3, 0] rfl ?_
      exact hc18 _ _ _ _ hf
    · rw [if_neg h1] at hf
      refine gr_iload X dX12_fewest_51 5 rfl ?_
      refine gr_iload_n X dX12_fewest_53 3 rfl rfl ?_
      refine gr_icmp_eq 62 X dX12_fewest_54 (by decide) (fun h3 => ?_) (fun h3 => ?_)
      · rw [if_pos h3] at hf
        exact b12_fewest_62 X hc hE hc18 ih _ _ _ _ _ _ hf
      · rw [if_neg h3] at hf
        refine gr_iload X dX12_fewest_57 4 rfl ?_
        refine gr_if_eq 172 X dX12_fewest_59 (by decide) (fun h4 => ?_) (fun h4 => ?_)
        · rw [if_pos h4] at hf
          obtain ⟨v5, ev5, hf⟩ := gz_lte hf
          refine gr_iinc (-1) [(3, .int v5), (0, .ref (gx_ad x 0)), (1, .int x1), (2, .int x2), (4, .int x4), (5, .int x5)] X dX12_fewest_172 3 rfl (by decide) ev5 (by decide) rfl ?_
          refine gr_goto 18 X dX12_fewest_175 (by decide) ?_
          refine gr_sub (lv' := [(0, .ref (gx_ad x 0)), (1, .int x1), (2, .int x2), (3, .int v5)]) [1, 2, 3, 0] rfl ?_
          exact hc18 _ _ _ _ hf
        · rw [if_neg h4] at hf
          exact b12_fewest_62 X hc hE hc18 ih _ _ _ _ _ _ hf

def f12_fewest_18 : Nat → Int32 → Int32 → Int32 → gz_M → Option (Int32 × gz_M)
  | 0, _, _, _, _ => none
  | n + 1, x1, x2, x3, M0 => if x3 < x1 then (gz_ck (gz_inb x1 25) <| if (M0.1 31 x1.toNatClampNeg) = (-1) then (some ((-2), M0)) else (gz_lt (gz_w M0 0 4 0) fun M4 => f12_fewest_198 gz_FU x1 x2 x1 M4)) else (if x3 = x2 then (gz_ck (gz_inb x3 25) <| gz_lt (gz_w M0 31 x3.toNatClampNeg 0) fun M7 => f12_fewest_45 (f12_fewest_18 n) gz_FU x1 x2 x3 0 x3 M7) else (gz_ck (gz_inb x3 25) <| gz_lt (gz_w M0 31 x3.toNatClampNeg (-1)) fun M9 => f12_fewest_45 (f12_fewest_18 n) gz_FU x1 x2 x3 0 x3 M9))
theorem b12_fewest_18 {x : gz_X} {pf : Nat → Bool} {l : Launch} {r : Int32} {M' : gz_M} (X : gz_Ok x cX12_fewest RX12 7 2 gz_cfR pf l) (hc : gx_cells x ≤ (gx_R x).cells ∧ gx_slots x ≤ (gx_R x).slots) (hE : gz_EI x cX12_fewest .int r M') : ∀ (n : Nat) (x1 : Int32) (x2 : Int32) (x3 : Int32) (M0 : gz_M), f12_fewest_18 n x1 x2 x3 M0 = some (r, M') → gz_At x 18 [(0, .ref (gx_ad x 0)), (1, .int x1), (2, .int x2), (3, .int x3)] [] M0 := by
  intro n
  induction n with
  | zero =>
    intro x1 x2 x3 M0  hf
    rw [f12_fewest_18] at hf
    cases hf
  | succ n ih =>
    intro x1 x2 x3 M0  hf
    rw [f12_fewest_18] at hf
    refine gr_iload_n X dX12_fewest_18 3 rfl rfl ?_
    refine gr_iload_n X dX12_fewest_19 1 rfl rfl ?_
    refine gr_icmp_lt 178 X dX12_fewest_20 (by decide) (fun h1 => ?_) (fun h1 => ?_)
    · rw [if_pos h1] at hf
      refine gr_aload_n X dX12_fewest_178 0 rfl rfl ?_
      refine gf12_48 X wf_RX12_104 dX12_fewest_179 ?_
      refine gr_iload_n X dX12_fewest_182 1 rfl rfl ?_
      obtain ⟨h2, hf⟩ := gz_cke hf
      refine gr_iaload X gk_R31 (gz_inp h2) dX12_fewest_183 ?_
      refine gr_iconst (-1) X dX12_fewest_184 (by decide) ?_
      refine gr_icmp_ne 191 X dX12_fewest_185 (by decide) (fun h3 => ?_) (fun h3 => ?_)
      · rw [if_pos h3] at hf
        refine gr_bipush (-2) X dX12_fewest_188 (by decide) ?_
        exact gz_EIu hE hf rfl dX12_fewest_190
      · rw [if_neg h3] at hf
        refine gr_aload_n X dX12_fewest_191 0 rfl rfl ?_
        refine gr_iconst 0 X dX12_fewest_192 (by decide) ?_
        obtain ⟨M4, eM4, hf⟩ := gz_lte hf
        refine gp12_4 X wf_RX12_127 eM4 dX12_fewest_193 ?_
        refine gr_iload_n X dX12_fewest_196 1 rfl rfl ?_
        refine gr_istore_n [(3, .int x1), (0, .ref (gx_ad x 0)), (1, .int x1), (2, .int x2)] X dX12_fewest_197 rfl rfl (by decide) rfl ?_
        refine gr_sub (lv' := [(0, .ref (gx_ad x 0)), (1, .int x1), (2, .int x2), (3, .int x1)]) [1, 2, 3, 0] rfl ?_
        exact b12_fewest_198 X hc hE _ _ _ _ _ hf
    · rw [if_neg h1] at hf
      refine gr_aload_n X dX12_fewest_23 0 rfl rfl ?_
      refine gf12_48 X wf_RX12_104 dX12_fewest_24 ?_
      refine gr_iload_n X dX12_fewest_27 3 rfl rfl ?_
      refine gr_iload_n X dX12_fewest_28 3 rfl rfl ?_
      refine gr_iload_n X dX12_fewest_29 2 rfl rfl ?_
      refine gr_icmp_ne 37 X dX12_fewest_30 (by decide) (fun h5 => ?_) (fun h5 => ?_)
      · rw [if_pos h5] at hf
        refine gr_iconst 0 X dX12_fewest_33 (by decide) ?_
        refine gr_goto 38 X dX12_fewest_34 (by decide) ?_
        obtain ⟨h6, hf⟩ := gz_cke hf
        obtain ⟨M7, eM7, hf⟩ := gz_lte hf
        refine gr_iastore X gk_R31 (gz_inp h6) eM7 dX12_fewest_38 ?_
        refine gr_iconst 0 X dX12_fewest_39 (by decide) ?_
        refine gr_istore [(4, .int 0), (0, .ref (gx_ad x 0)), (1, .int x1), (2, .int x2), (3, .int x3)] X dX12_fewest_40 rfl (by decide) rfl ?_
        refine gr_iload_n X dX12_fewest_42 4 rfl rfl ?_
        refine gr_istore [(5, .int x3), (4, .int 0), (0, .ref (gx_ad x 0)), (1, .int x1), (2, .int x2), (3, .int x3)] X dX12_fewest_43 rfl (by decide) rfl ?_
        refine gr_sub (lv' := [(0, .ref (gx_ad x 0)), (1, .int x1), (2, .int x2), (3, .int x3), (4, .int 0), (5, .int x3)]) [2, 3, 4, 5, 1, 0] rfl ?_
        exact b12_fewest_45 X hc hE ih _ _ _ _ _ _ _ hf
      · rw [if_neg h5] at hf
        refine gr_iconst (-1) X dX12_fewest_37 (by decide) ?_
        obtain ⟨h8, hf⟩ := gz_cke hf
        obtain ⟨M9, eM9, hf⟩ := gz_lte hf
        refine gr_iastore X gk_R31 (gz_inp h8) eM9 dX12_fewest_38 ?_
        refine gr_iconst 0 X dX12_fewest_39 (by decide) ?_
        refine gr_istore [(4, .int 0), (0, .ref (gx_ad x 0)), (1, .int x1), (2, .int x2), (3, .int x3)] X dX12_fewest_40 rfl (by decide) rfl ?_
        refine gr_iload_n X dX12_fewest_42 4 rfl rfl ?_
        refine gr_istore [(5, .int x3), (4, .int 0), (0, .ref (gx_ad x 0)), (1, .int x1), (2, .int x2), (3, .int x3)] X dX12_fewest_43 rfl (by decide) rfl ?_
        refine gr_sub (lv' := [(0, .ref (gx_ad x 0)), (1, .int x1), (2, .int x2), (3, .int x3), (4, .int 0), (5, .int x3)]) [2, 3, 4, 5, 1, 0] rfl ?_
        exact b12_fewest_45 X hc hE ih _ _ _ _ _ _ _ hf

def f12_fewest (a0 : Int32) (a1 : Int32) (M0 : gz_M) : Option (Int32 × gz_M) := gz_lt (gz_w M0 0 5 0) fun M1 => gz_bd2 (f12_isStretch a0 a1 M1) fun v2 M3 => if v2 = 0 then (some ((-1), M3)) else (f12_fewest_18 gz_FU a0 a1 a1 M3)
set_option maxRecDepth 100000 in
theorem c12_fewest {pf : Nat → Bool} {l : Launch} {r : Int32} {M0 M' : gz_M} {a0 : Int32} {a1 : Int32} (hf : f12_fewest a0 a1 M0 = some (r, M')) : gz_CI l gz_cfR yX12_fewest cX12_fewest 7 2 .int (fun ad => [.ref (ad 0), .int a0, .int a1]) pf M0 r M' := by
  refine gz_ofI (by decide +kernel) (fun _ => Nat.le_of_ble_eq_true rfl) (fun x X hc hE => ?_)
  show gz_At x 0 [(0, .ref (gx_ad x 0)), (1, .int a0), (2, .int a1)] [] M0
  unfold f12_fewest at hf
  refine gr_aload_n X dX12_fewest_0 0 rfl rfl ?_
  refine gr_iconst 0 X dX12_fewest_1 (by decide) ?_
  obtain ⟨M1, eM1, hf⟩ := gz_lte hf
  refine gp12_5 X wf_RX12_123 eM1 dX12_fewest_2 ?_
  refine gr_aload_n X dX12_fewest_5 0 rfl rfl ?_
  refine gr_iload_n X dX12_fewest_6 1 rfl rfl ?_
  refine gr_iload_n X dX12_fewest_7 2 rfl rfl ?_
  obtain ⟨v2, M3, q4, hf⟩ := gz_bd2e hf
  refine gr_callI (asF := fun ad => [.ref (ad 0), .int a0, .int a1]) [.int a0, .int a1] X (c12_isStretch q4) rfl wm_RX12_306 rfl (X.kd gk_R0).1 ((X.kd gk_R0).2 _ _ _ _) rfl (by decide) (by decide) rfl (Nat.le_of_ble_eq_true rfl) hc dX12_fewest_8 ?_
  refine gr_if_ne 16 X dX12_fewest_11 (by decide) (fun h5 => ?_) (fun h5 => ?_)
  · rw [if_pos h5] at hf
    refine gr_iconst (-1) X dX12_fewest_14 (by decide) ?_
    exact gz_EIu hE hf rfl dX12_fewest_15
  · rw [if_neg h5] at hf
    refine gr_iload_n X dX12_fewest_16 2 rfl rfl ?_
    refine gr_istore_n [(3, .int a1), (0, .ref (gx_ad x 0)), (1, .int a0), (2, .int a1)] X dX12_fewest_17 rfl rfl (by decide) rfl ?_
    refine gr_sub (lv' := [(0, .ref (gx_ad x 0)), (1, .int a0), (2, .int a1), (3, .int a1)]) [1, 2, 3, 0] rfl ?_
    exact b12_fewest_18 X hc hE _ _ _ _ _ hf

def f12_touched_31 : Nat → Int32 → Int32 → gz_M → Option (Int32 × gz_M)
  | 0, _, _, _ => none
  | n + 1, x1, x2, M0 => gz_bd2 (f12_of x2 3 M0) fun v1 M2 => if x1 < v1 then (gz_lt (gz_w M2 0 4 0) fun M5 => gz_bd (f12_tell (x2.toInt64) M5) fun M6 => gz_bd2 (f12_of x2 1 M6) fun v8 M9 => gz_bd (f12_tell (v8.toInt64) M9) fun M11 => some ((M11.1 0 31) - x2, M11)) else (gz_lt (x2 + 1) fun v13 => f12_touched_31 n x1 v13 M2)
theorem b12_touched_31 {x : gz_X} {pf : Nat → Bool} {l : Launch} {r : Int32} {M' : gz_M} (X : gz_Ok x cX12_touched RX12 3 4 gz_cfR pf l) (hc : gx_cells x ≤ (gx_R x).cells ∧ gx_slots x ≤ (gx_R x).slots) (hE : gz_EI x cX12_touched .int r M') : ∀ (n : Nat) (x1 : Int32) (x2 : Int32) (M0 : gz_M), f12_touched_31 n x1 x2 M0 = some (r, M') → gz_At x 31 [(0, .ref (gx_ad x 0)), (1, .int x1), (2, .int x2)] [] M0 := by
  intro n
  induction n with
  | zero =>
    intro x1 x2 M0  hf
    rw [f12_touched_31] at hf
    cases hf
  | succ n ih =>
    intro x1 x2 M0  hf
    rw [f12_touched_31] at hf
    refine gr_aload_n X dX12_touched_31 0 rfl rfl ?_
    refine gr_iload_n X dX12_touched_32 2 rfl rfl ?_
    refine gr_iconst 3 X dX12_touched_33 (by decide) ?_
    obtain ⟨v1, M2, q3, hf⟩ := gz_bd2e hf
    refine gr_callI (asF := fun ad => [.ref (ad 0), .int x2, .int 3]) [.int x2, .int 3] X (c12_of q3) rfl wm_RX12_277 rfl (X.kd gk_R0).1 ((X.kd gk_R0).2 _ _ _ _) rfl (by decide) (by decide) rfl (Nat.le_of_ble_eq_true rfl) hc dX12_touched_34 ?_
    refine gr_iload_n X dX12_touched_37 1 rfl rfl ?_
    refine gr_icmp_gt 47 X dX12_touched_38 (by decide) (fun h4 => ?_) (fun h4 => ?_)
    · rw [if_pos h4] at hf
      refine gr_aload_n X dX12_touched_47 0 rfl rfl ?_
      refine gr_iconst 0 X dX12_touched_48 (by decide) ?_
      obtain ⟨M5, eM5, hf⟩ := gz_lte hf
      refine gp12_4 X wf_RX12_127 eM5 dX12_touched_49 ?_
      refine gr_aload_n X dX12_touched_52 0 rfl rfl ?_
      refine gr_iload_n X dX12_touched_53 2 rfl rfl ?_
      refine gr_i2l X dX12_touched_54 ?_
      obtain ⟨M6, q7, hf⟩ := gz_bde hf
      refine gr_callV (asF := fun ad => [.ref (ad 0), .long (x2.toInt64)]) [.long (x2.toInt64)] X (c12_tell q7) rfl wm_RX12_280 rfl (X.kd gk_R0).1 ((X.kd gk_R0).2 _ _ _ _) rfl (by decide) (by decide) rfl (Nat.le_of_ble_eq_true rfl) hc dX12_touched_55 ?_
      refine gr_aload_n X dX12_touched_58 0 rfl rfl ?_
      refine gr_aload_n X dX12_touched_59 0 rfl rfl ?_
      refine gr_iload_n X dX12_touched_60 2 rfl rfl ?_
      refine gr_iconst 1 X dX12_touched_61 (by decide) ?_
      obtain ⟨v8, M9, q10, hf⟩ := gz_bd2e hf
      refine gr_callI (asF := fun ad => [.ref (ad 0), .int x2, .int 1]) [.int x2, .int 1] X (c12_of q10) rfl wm_RX12_277 rfl (X.kd gk_R0).1 ((X.kd gk_R0).2 _ _ _ _) rfl (by decide) (by decide) rfl (Nat.le_of_ble_eq_true rfl) hc dX12_touched_62 ?_
      refine gr_i2l X dX12_touched_65 ?_
      obtain ⟨M11, q12, hf⟩ := gz_bde hf
      refine gr_callV (asF := fun ad => [.ref (ad 0), .long (v8.toInt64)]) [.long (v8.toInt64)] X (c12_tell q12) rfl wm_RX12_280 rfl (X.kd gk_R0).1 ((X.kd gk_R0).2 _ _ _ _) rfl (by decide) (by decide) rfl (Nat.le_of_ble_eq_true rfl) hc dX12_touched_66 ?_
      refine gr_aload_n X dX12_touched_69 0 rfl rfl ?_
      refine gf12_31 X wf_RX12_238 dX12_touched_70 ?_
      refine gr_iload_n X dX12_touched_73 2 rfl rfl ?_
      refine gr_isub X dX12_touched_74 ?_
      exact gz_EIu hE hf rfl dX12_touched_75
    · rw [if_neg h4] at hf
      obtain ⟨v13, ev13, hf⟩ := gz_lte hf
      refine gr_iinc 1 [(2, .int v13), (0, .ref (gx_ad x 0)), (1, .int x1)] X dX12_touched_41 2 rfl (by decide) ev13 (by decide) rfl ?_
      refine gr_goto 31 X dX12_touched_44 (by decide) ?_
      refine gr_sub (lv' := [(0, .ref (gx_ad x 0)), (1, .int x1), (2, .int v13)]) [1, 2, 0] rfl ?_
      exact ih _ _ _ hf

def f12_touched (a0 : Int32) (M0 : gz_M) : Option (Int32 × gz_M) := gz_lt (gz_w M0 0 5 0) fun M1 => gz_ck (gz_inb 81 106) <| gz_bd2 (f12_in a0 0 ((M1.1 1 (81 : Int32).toNatClampNeg) - 1) M1) fun v3 M4 => if v3 = 0 then (some ((-1), M4)) else (gz_bd (f12_cutAll 0 M4) fun M7 => f12_touched_31 gz_FU a0 0 M7)
set_option maxRecDepth 100000 in
theorem c12_touched {pf : Nat → Bool} {l : Launch} {r : Int32} {M0 M' : gz_M} {a0 : Int32} (hf : f12_touched a0 M0 = some (r, M')) : gz_CI l gz_cfR yX12_touched cX12_touched 3 4 .int (fun ad => [.ref (ad 0), .int a0]) pf M0 r M' := by
  refine gz_ofI (by decide +kernel) (fun _ => Nat.le_of_ble_eq_true rfl) (fun x X hc hE => ?_)
  show gz_At x 0 [(0, .ref (gx_ad x 0)), (1, .int a0)] [] M0
  unfold f12_touched at hf
  refine gr_aload_n X dX12_touched_0 0 rfl rfl ?_
  refine gr_iconst 0 X dX12_touched_1 (by decide) ?_
  obtain ⟨M1, eM1, hf⟩ := gz_lte hf
  refine gp12_5 X wf_RX12_123 eM1 dX12_touched_2 ?_
  refine gr_iload_n X dX12_touched_5 1 rfl rfl ?_
  refine gr_iconst 0 X dX12_touched_6 (by decide) ?_
  refine gr_aload_n X dX12_touched_7 0 rfl rfl ?_
  refine gf12_0 X wf_RX12_9 dX12_touched_8 ?_
  refine gr_bipush 81 X dX12_touched_11 (by decide) ?_
  obtain ⟨h2, hf⟩ := gz_cke hf
  refine gr_iaload X gk_R1 (gz_inp h2) dX12_touched_13 ?_
  refine gr_iconst 1 X dX12_touched_14 (by decide) ?_
  refine gr_isub X dX12_touched_15 ?_
  obtain ⟨v3, M4, q5, hf⟩ := gz_bd2e hf
  refine gr_callSI (asF := fun _ => [.int a0, .int 0, .int ((M1.1 1 (81 : Int32).toNatClampNeg) - 1)]) [.int a0, .int 0, .int ((M1.1 1 (81 : Int32).toNatClampNeg) - 1)] X (c12_in q5) rfl wm_RX12_133 rfl (by decide) (by decide) rfl (Nat.le_of_ble_eq_true rfl) hc dX12_touched_16 ?_
  refine gr_if_ne 24 X dX12_touched_19 (by decide) (fun h6 => ?_) (fun h6 => ?_)
  · rw [if_pos h6] at hf
    refine gr_iconst (-1) X dX12_touched_22 (by decide) ?_
    exact gz_EIu hE hf rfl dX12_touched_23
  · rw [if_neg h6] at hf
    refine gr_aload_n X dX12_touched_24 0 rfl rfl ?_
    refine gr_iconst 0 X dX12_touched_25 (by decide) ?_
    obtain ⟨M7, q8, hf⟩ := gz_bde hf
    refine gr_callV (asF := fun ad => [.ref (ad 0), .int 0]) [.int 0] X (c12_cutAll q8) rfl wm_RX12_274 rfl (X.kd gk_R0).1 ((X.kd gk_R0).2 _ _ _ _) rfl (by decide) (by decide) rfl (Nat.le_of_ble_eq_true rfl) hc dX12_touched_26 ?_
    refine gr_iconst 0 X dX12_touched_29 (by decide) ?_
    refine gr_istore_n [(2, .int 0), (0, .ref (gx_ad x 0)), (1, .int a0)] X dX12_touched_30 rfl rfl (by decide) rfl ?_
    refine gr_sub (lv' := [(0, .ref (gx_ad x 0)), (1, .int a0), (2, .int 0)]) [1, 2, 0] rfl ?_
    exact b12_touched_31 X hc hE _ _ _ _ hf

def f12_same (a0 : Int32) (a1 : Int32) (a2 : Int32) (a3 : Int32) (a4 : Int32) (M0 : gz_M) : Option (Int32 × gz_M) := gz_lt (gz_w M0 0 5 0) fun M1 => gz_bd2 (f12_isMode a0 M1) fun v2 M3 => if v2 = 0 then (some ((-1), M3)) else (gz_bd2 (f12_isStretch a1 a2 M3) fun v6 M7 => if v6 = 0 then (some ((-1), M7)) else (gz_bd2 (f12_isStretch a3 a4 M7) fun v10 M11 => if v10 = 0 then (some ((-1), M11)) else (if a1 = a2 then (some ((-1), M11)) else (if a3 = a4 then (some ((-1), M11)) else (gz_bd2 (f12_standingBehind a0 a1 a2 M11) fun v16 M17 => gz_bd2 (f12_standingBehind a0 a3 a4 M17) fun v19 M20 => gz_lt (gz_w M20 0 4 0) fun M22 => gz_bd2 (fJ_bitCount (v16 &&& v19) M22) fun v23 M24 => gz_bd (f12_tell (v23.toInt64) M24) fun M26 => if v16 = v19 then (some (1, M26)) else (some (0, M26)))))))
set_option maxRecDepth 100000 in
theorem c12_same {pf : Nat → Bool} {l : Launch} {r : Int32} {M0 M' : gz_M} {a0 : Int32} {a1 : Int32} {a2 : Int32} {a3 : Int32} {a4 : Int32} (hf : f12_same a0 a1 a2 a3 a4 M0 = some (r, M')) : gz_CI l gz_cfR yX12_same cX12_same 8 3 .int (fun ad => [.ref (ad 0), .int a0, .int a1, .int a2, .int a3, .int a4]) pf M0 r M' := by
  refine gz_ofI (by decide +kernel) (fun _ => Nat.le_of_ble_eq_true rfl) (fun x X hc hE => ?_)
  show gz_At x 0 [(0, .ref (gx_ad x 0)), (1, .int a0), (2, .int a1), (3, .int a2), (4, .int a3), (5, .int a4)] [] M0
  unfold f12_same at hf
  refine gr_aload_n X dX12_same_0 0 rfl rfl ?_
  refine gr_iconst 0 X dX12_same_1 (by decide) ?_
  obtain ⟨M1, eM1, hf⟩ := gz_lte hf
  refine gp12_5 X wf_RX12_123 eM1 dX12_same_2 ?_
  refine gr_iload_n X dX12_same_5 1 rfl rfl ?_
  obtain ⟨v2, M3, q4, hf⟩ := gz_bd2e hf
  refine gr_callSI (asF := fun _ => [.int a0]) [.int a0] X (c12_isMode q4) rfl wm_RX12_293 rfl (by decide) (by decide) rfl (Nat.le_of_ble_eq_true rfl) hc dX12_same_6 ?_
  refine gr_if_eq 44 X dX12_same_9 (by decide) (fun h5 => ?_) (fun h5 => ?_)
  · rw [if_pos h5] at hf
    refine gr_iconst (-1) X dX12_same_44 (by decide) ?_
    exact gz_EIu hE hf rfl dX12_same_45
  · rw [if_neg h5] at hf
    refine gr_aload_n X dX12_same_12 0 rfl rfl ?_
    refine gr_iload_n X dX12_same_13 2 rfl rfl ?_
    refine gr_iload_n X dX12_same_14 3 rfl rfl ?_
    obtain ⟨v6, M7, q8, hf⟩ := gz_bd2e hf
    refine gr_callI (asF := fun ad => [.ref (ad 0), .int a1, .int a2]) [.int a1, .int a2] X (c12_isStretch q8) rfl wm_RX12_306 rfl (X.kd gk_R0).1 ((X.kd gk_R0).2 _ _ _ _) rfl (by decide) (by decide) rfl (Nat.le_of_ble_eq_true rfl) hc dX12_same_15 ?_
    refine gr_if_eq 44 X dX12_same_18 (by decide) (fun h9 => ?_) (fun h9 => ?_)
    · rw [if_pos h9] at hf
      refine gr_iconst (-1) X dX12_same_44 (by decide) ?_
      exact gz_EIu hE hf rfl dX12_same_45
    · rw [if_neg h9] at hf
      refine gr_aload_n X dX12_same_21 0 rfl rfl ?_
      refine gr_iload X dX12_same_22 4 rfl ?_
      refine gr_iload X dX12_same_24 5 rfl ?_
      obtain ⟨v10, M11, q12, hf⟩ := gz_bd2e hf
      refine gr_callI (asF := fun ad => [.ref (ad 0), .int a3, .int a4]) [.int a3, .int a4] X (c12_isStretch q12) rfl wm_RX12_306 rfl (X.kd gk_R0).1 ((X.kd gk_R0).2 _ _ _ _) rfl (by decide) (by decide) rfl (Nat.le_of_ble_eq_true rfl) hc dX12_same_26 ?_
      refine gr_if_eq 44 X dX12_same_29 (by decide) (fun h13 => ?_) (fun h13 => ?_)
      · rw [if_pos h13] at hf
        refine gr_iconst (-1) X dX12_same_44 (by decide) ?_
        exact gz_EIu hE hf rfl dX12_same_45
      · rw [if_neg h13] at hf
        refine gr_iload_n X dX12_same_32 2 rfl rfl ?_
        refine gr_iload_n X dX12_same_33 3 rfl rfl ?_
        refine gr_icmp_eq 44 X dX12_same_34 (by decide) (fun h14 => ?_) (fun h14 => ?_)
        · rw [if_pos h14] at hf
          refine gr_iconst (-1) X dX12_same_44 (by decide) ?_
          exact gz_EIu hE hf rfl dX12_same_45
        · rw [if_neg h14] at hf
          refine gr_iload X dX12_same_37 4 rfl ?_
          refine gr_iload X dX12_same_39 5 rfl ?_
          refine gr_icmp_ne 46 X dX12_same_41 (by decide) (fun h15 => ?_) (fun h15 => ?_)
          · rw [if_pos h15] at hf
            refine gr_iconst (-1) X dX12_same_44 (by decide) ?_
            exact gz_EIu hE hf rfl dX12_same_45
          · rw [if_neg h15] at hf
            refine gr_aload_n X dX12_same_46 0 rfl rfl ?_
            refine gr_iload_n X dX12_same_47 1 rfl rfl ?_
            refine gr_iload_n X dX12_same_48 2 rfl rfl ?_
            refine gr_iload_n X dX12_same_49 3 rfl rfl ?_
            obtain ⟨v16, M17, q18, hf⟩ := gz_bd2e hf
            refine gr_callI (asF := fun ad => [.ref (ad 0), .int a0, .int a1, .int a2]) [.int a0, .int a1, .int a2] X (c12_standingBehind q18) rfl wm_RX12_303 rfl (X.kd gk_R0).1 ((X.kd gk_R0).2 _ _ _ _) rfl (by decide) (by decide) rfl (Nat.le_of_ble_eq_true rfl) hc dX12_same_50 ?_
            refine gr_istore [(6, .int v16), (0, .ref (gx_ad x 0)), (1, .int a0), (2, .int a1), (3, .int a2), (4, .int a3), (5, .int a4)] X dX12_same_53 rfl (by decide) rfl ?_
            refine gr_aload_n X dX12_same_55 1 rfl rfl ?_
            refine gr_iload_n X dX12_same_56 2 rfl rfl ?_
            refine gr_iload X dX12_same_57 5 rfl ?_
            refine gr_iload X dX12_same_59 6 rfl ?_
            obtain ⟨v19, M20, q21, hf⟩ := gz_bd2e hf
            refine gr_callI (asF := fun ad => [.ref (ad 0), .int a0, .int a3, .int a4]) [.int a0, .int a3, .int a4] X (c12_standingBehind q21) rfl wm_RX12_303 rfl (X.kd gk_R0).1 ((X.kd gk_R0).2 _ _ _ _) rfl (by decide) (by decide) rfl (Nat.le_of_ble_eq_true rfl) hc dX12_same_61 ?_
            refine gr_istore [(7, .int v19), (6, .int v16), (0, .ref (gx_ad x 0)), (1, .int a0), (2, .int a1), (3, .int a2), (4, .int a3), (5, .int a4)] X dX12_same_64 rfl (by decide) rfl ?_
            refine gr_aload_n X dX12_same_66 2 rfl rfl ?_
            refine gr_iconst 0 X dX12_same_67 (by decide) ?_
            obtain ⟨M22, eM22, hf⟩ := gz_lte hf
            refine gp12_4 X wf_RX12_127 eM22 dX12_same_68 ?_
            refine gr_aload_n X dX12_same_71 2 rfl rfl ?_
            refine gr_iload X dX12_same_72 1 rfl ?_
            refine gr_iload X dX12_same_74 0 rfl ?_
            refine gr_iand X dX12_same_76 ?_
            obtain ⟨v23, M24, q25, hf⟩ := gz_bd2e hf
            refine gr_callSI (asF := fun _ => [.int (v16 &&& v19)]) [.int (v16 &&& v19)] X (cJ_bitCount q25) rfl wm_RX12_313 rfl (by decide) (by decide) rfl (Nat.le_of_ble_eq_true rfl) hc dX12_same_77 ?_
            refine gr_i2l X dX12_same_80 ?_
            obtain ⟨M26, q27, hf⟩ := gz_bde hf
            refine gr_callV (asF := fun ad => [.ref (ad 0), .long (v23.toInt64)]) [.long (v23.toInt64)] X (c12_tell q27) rfl wm_RX12_280 rfl (X.kd gk_R0).1 ((X.kd gk_R0).2 _ _ _ _) rfl (by decide) (by decide) rfl (Nat.le_of_ble_eq_true rfl) hc dX12_same_81 ?_
            refine gr_iload X dX12_same_84 1 rfl ?_
            refine gr_iload X dX12_same_86 0 rfl ?_
            refine gr_icmp_ne 95 X dX12_same_88 (by decide) (fun h28 => ?_) (fun h28 => ?_)
            · rw [if_pos h28] at hf
              refine gr_iconst 1 X dX12_same_91 (by decide) ?_
              refine gr_goto 96 X dX12_same_92 (by decide) ?_
              exact gz_EIu hE hf rfl dX12_same_96
            · rw [if_neg h28] at hf
              refine gr_iconst 0 X dX12_same_95 (by decide) ?_
              exact gz_EIu hE hf rfl dX12_same_96

def f12_refusesBecome (a0 : Int32) (a1 : Int32) (M0 : gz_M) : Option (Int32 × gz_M) := gz_ck (gz_inb 81 106) <| gz_bd2 (f12_in a0 0 ((M0.1 1 (81 : Int32).toNatClampNeg) - 1) M0) fun v2 M3 => if v2 = 0 then (some ((-1), M3)) else (gz_bd2 (f12_in a1 0 7 M3) fun v6 M7 => if v6 = 0 then (some ((-1), M7)) else (gz_ck (gz_inb (82 + a0) 106) <| if (M7.1 1 (82 + a0).toNatClampNeg) = a1 then (some ((-2), M7)) else (some (0, M7))))
set_option maxRecDepth 100000 in
theorem c12_refusesBecome {pf : Nat → Bool} {l : Launch} {r : Int32} {M0 M' : gz_M} {a0 : Int32} {a1 : Int32} (hf : f12_refusesBecome a0 a1 M0 = some (r, M')) : gz_CI l gz_cfR yX12_refusesBecome cX12_refusesBecome 3 2 .int (fun ad => [.ref (ad 0), .int a0, .int a1]) pf M0 r M' := by
  refine gz_ofI (by decide +kernel) (fun _ => Nat.le_of_ble_eq_true rfl) (fun x X hc hE => ?_)
  show gz_At x 0 [(0, .ref (gx_ad x 0)), (1, .int a0), (2, .int a1)] [] M0
  unfold f12_refusesBecome at hf
  refine gr_iload_n X dX12_refusesBecome_0 1 rfl rfl ?_
  refine gr_iconst 0 X dX12_refusesBecome_1 (by decide) ?_
  refine gr_aload_n X dX12_refusesBecome_2 0 rfl rfl ?_
  refine gf12_0 X wf_RX12_9 dX12_refusesBecome_3 ?_
  refine gr_bipush 81 X dX12_refusesBecome_6 (by decide) ?_
  obtain ⟨h1, hf⟩ := gz_cke hf
  refine gr_iaload X gk_R1 (gz_inp h1) dX12_refusesBecome_8 ?_
  refine gr_iconst 1 X dX12_refusesBecome_9 (by decide) ?_
  refine gr_isub X dX12_refusesBecome_10 ?_
  obtain ⟨v2, M3, q4, hf⟩ := gz_bd2e hf
  refine gr_callSI (asF := fun _ => [.int a0, .int 0, .int ((M0.1 1 (81 : Int32).toNatClampNeg) - 1)]) [.int a0, .int 0, .int ((M0.1 1 (81 : Int32).toNatClampNeg) - 1)] X (c12_in q4) rfl wm_RX12_133 rfl (by decide) (by decide) rfl (Nat.le_of_ble_eq_true rfl) hc dX12_refusesBecome_11 ?_
  refine gr_if_eq 27 X dX12_refusesBecome_14 (by decide) (fun h5 => ?_) (fun h5 => ?_)
  · rw [if_pos h5] at hf
    refine gr_iconst (-1) X dX12_refusesBecome_27 (by decide) ?_
    exact gz_EIu hE hf rfl dX12_refusesBecome_28
  · rw [if_neg h5] at hf
    refine gr_iload_n X dX12_refusesBecome_17 2 rfl rfl ?_
    refine gr_iconst 0 X dX12_refusesBecome_18 (by decide) ?_
    refine gr_bipush 7 X dX12_refusesBecome_19 (by decide) ?_
    obtain ⟨v6, M7, q8, hf⟩ := gz_bd2e hf
    refine gr_callSI (asF := fun _ => [.int a1, .int 0, .int 7]) [.int a1, .int 0, .int 7] X (c12_in q8) rfl wm_RX12_133 rfl (by decide) (by decide) rfl (Nat.le_of_ble_eq_true rfl) hc dX12_refusesBecome_21 ?_
    refine gr_if_ne 29 X dX12_refusesBecome_24 (by decide) (fun h9 => ?_) (fun h9 => ?_)
    · rw [if_pos h9] at hf
      refine gr_iconst (-1) X dX12_refusesBecome_27 (by decide) ?_
      exact gz_EIu hE hf rfl dX12_refusesBecome_28
    · rw [if_neg h9] at hf
      refine gr_aload_n X dX12_refusesBecome_29 0 rfl rfl ?_
      refine gf12_0 X wf_RX12_9 dX12_refusesBecome_30 ?_
      refine gr_bipush 82 X dX12_refusesBecome_33 (by decide) ?_
      refine gr_iload_n X dX12_refusesBecome_35 1 rfl rfl ?_
      refine gr_iadd X dX12_refusesBecome_36 ?_
      obtain ⟨h10, hf⟩ := gz_cke hf
      refine gr_iaload X gk_R1 (gz_inp h10) dX12_refusesBecome_37 ?_
      refine gr_iload_n X dX12_refusesBecome_38 2 rfl rfl ?_
      refine gr_icmp_ne 47 X dX12_refusesBecome_39 (by decide) (fun h11 => ?_) (fun h11 => ?_)
      · rw [if_pos h11] at hf
        refine gr_bipush (-2) X dX12_refusesBecome_42 (by decide) ?_
        refine gr_goto 48 X dX12_refusesBecome_44 (by decide) ?_
        exact gz_EIu hE hf rfl dX12_refusesBecome_48
      · rw [if_neg h11] at hf
        refine gr_iconst 0 X dX12_refusesBecome_47 (by decide) ?_
        exact gz_EIu hE hf rfl dX12_refusesBecome_48

def f12_refusesCome (a0 : Int32) (a1 : Int32) (M0 : gz_M) : Option (Int32 × gz_M) := gz_ck (gz_inb 81 106) <| gz_bd2 (f12_in a0 0 (M0.1 1 (81 : Int32).toNatClampNeg) M0) fun v2 M3 => if v2 = 0 then (some ((-1), M3)) else (gz_bd2 (f12_in a1 0 7 M3) fun v6 M7 => if v6 = 0 then (some ((-1), M7)) else (gz_ck (gz_inb 81 106) <| if (M7.1 1 (81 : Int32).toNatClampNeg) = 24 then (some ((-3), M7)) else (some (0, M7))))
set_option maxRecDepth 100000 in
theorem c12_refusesCome {pf : Nat → Bool} {l : Launch} {r : Int32} {M0 M' : gz_M} {a0 : Int32} {a1 : Int32} (hf : f12_refusesCome a0 a1 M0 = some (r, M')) : gz_CI l gz_cfR yX12_refusesCome cX12_refusesCome 3 2 .int (fun ad => [.ref (ad 0), .int a0, .int a1]) pf M0 r M' := by
  refine gz_ofI (by decide +kernel) (fun _ => Nat.le_of_ble_eq_true rfl) (fun x X hc hE => ?_)
  show gz_At x 0 [(0, .ref (gx_ad x 0)), (1, .int a0), (2, .int a1)] [] M0
  unfold f12_refusesCome at hf
  refine gr_iload_n X dX12_refusesCome_0 1 rfl rfl ?_
  refine gr_iconst 0 X dX12_refusesCome_1 (by decide) ?_
  refine gr_aload_n X dX12_refusesCome_2 0 rfl rfl ?_
  refine gf12_0 X wf_RX12_9 dX12_refusesCome_3 ?_
  refine gr_bipush 81 X dX12_refusesCome_6 (by decide) ?_
  obtain ⟨h1, hf⟩ := gz_cke hf
  refine gr_iaload X gk_R1 (gz_inp h1) dX12_refusesCome_8 ?_
  obtain ⟨v2, M3, q4, hf⟩ := gz_bd2e hf
  refine gr_callSI (asF := fun _ => [.int a0, .int 0, .int (M0.1 1 (81 : Int32).toNatClampNeg)]) [.int a0, .int 0, .int (M0.1 1 (81 : Int32).toNatClampNeg)] X (c12_in q4) rfl wm_RX12_133 rfl (by decide) (by decide) rfl (Nat.le_of_ble_eq_true rfl) hc dX12_refusesCome_9 ?_
  refine gr_if_eq 25 X dX12_refusesCome_12 (by decide) (fun h5 => ?_) (fun h5 => ?_)
  · rw [if_pos h5] at hf
    refine gr_iconst (-1) X dX12_refusesCome_25 (by decide) ?_
    exact gz_EIu hE hf rfl dX12_refusesCome_26
  · rw [if_neg h5] at hf
    refine gr_iload_n X dX12_refusesCome_15 2 rfl rfl ?_
    refine gr_iconst 0 X dX12_refusesCome_16 (by decide) ?_
    refine gr_bipush 7 X dX12_refusesCome_17 (by decide) ?_
    obtain ⟨v6, M7, q8, hf⟩ := gz_bd2e hf
    refine gr_callSI (asF := fun _ => [.int a1, .int 0, .int 7]) [.int a1, .int 0, .int 7] X (c12_in q8) rfl wm_RX12_133 rfl (by decide) (by decide) rfl (Nat.le_of_ble_eq_true rfl) hc dX12_refusesCome_19 ?_
    refine gr_if_ne 27 X dX12_refusesCome_22 (by decide) (fun h9 => ?_) (fun h9 => ?_)
    · rw [if_pos h9] at hf
      refine gr_iconst (-1) X dX12_refusesCome_25 (by decide) ?_
      exact gz_EIu hE hf rfl dX12_refusesCome_26
    · rw [if_neg h9] at hf
      refine gr_aload_n X dX12_refusesCome_27 0 rfl rfl ?_
      refine gf12_0 X wf_RX12_9 dX12_refusesCome_28 ?_
      refine gr_bipush 81 X dX12_refusesCome_31 (by decide) ?_
      obtain ⟨h10, hf⟩ := gz_cke hf
      refine gr_iaload X gk_R1 (gz_inp h10) dX12_refusesCome_33 ?_
      refine gr_bipush 24 X dX12_refusesCome_34 (by decide) ?_
      refine gr_icmp_ne 44 X dX12_refusesCome_36 (by decide) (fun h11 => ?_) (fun h11 => ?_)
      · rw [if_pos h11] at hf
        refine gr_bipush (-3) X dX12_refusesCome_39 (by decide) ?_
        refine gr_goto 45 X dX12_refusesCome_41 (by decide) ?_
        exact gz_EIu hE hf rfl dX12_refusesCome_45
      · rw [if_neg h11] at hf
        refine gr_iconst 0 X dX12_refusesCome_44 (by decide) ?_
        exact gz_EIu hE hf rfl dX12_refusesCome_45

def f12_refuses (a0 : Int32) (a1 : Int32) (a2 : Int32) (M0 : gz_M) : Option (Int32 × gz_M) := if a0 = 0 then (gz_bd2 (f12_refusesBecome a1 a2 M0) fun v2 M3 => some (v2, M3)) else (if a0 = 1 then (gz_bd2 (f12_refusesCome a1 a2 M0) fun v6 M7 => some (v6, M7)) else (gz_ck (gz_inb 81 106) <| gz_bd2 (f12_in a1 0 ((M0.1 1 (81 : Int32).toNatClampNeg) - 1) M0) fun v10 M11 => if v10 = 0 then (some ((-1), M11)) else (some (0, M11))))
set_option maxRecDepth 100000 in
theorem c12_refuses {pf : Nat → Bool} {l : Launch} {r : Int32} {M0 M' : gz_M} {a0 : Int32} {a1 : Int32} {a2 : Int32} (hf : f12_refuses a0 a1 a2 M0 = some (r, M')) : gz_CI l gz_cfR yX12_refuses cX12_refuses 4 3 .int (fun ad => [.ref (ad 0), .int a0, .int a1, .int a2]) pf M0 r M' := by
  refine gz_ofI (by decide +kernel) (fun _ => Nat.le_of_ble_eq_true rfl) (fun x X hc hE => ?_)
  show gz_At x 0 [(0, .ref (gx_ad x 0)), (1, .int a0), (2, .int a1), (3, .int a2)] [] M0
  unfold f12_refuses at hf
  refine gr_iload_n X dX12_refuses_0 1 rfl rfl ?_
  refine gr_if_ne 13 X dX12_refuses_1 (by decide) (fun h1 => ?_) (fun h1 => ?_)
  · rw [if_pos h1] at hf
    refine gr_aload_n X dX12_refuses_4 0 rfl rfl ?_
    refine gr_iload_n X dX12_refuses_5 2 rfl rfl ?_
    refine gr_iload_n X dX12_refuses_6 3 rfl rfl ?_
    obtain ⟨v2, M3, q4, hf⟩ := gz_bd2e hf
    refine gr_callI (asF := fun ad => [.ref (ad 0), .int a1, .int a2]) [.int a1, .int a2] X (c12_refusesBecome q4) rfl wm_RX12_341 rfl (X.kd gk_R0).1 ((X.kd gk_R0).2 _ _ _ _) rfl (by decide) (by decide) rfl (Nat.le_of_ble_eq_true rfl) hc dX12_refuses_7 ?_
    refine gr_goto 49 X dX12_refuses_10 (by decide) ?_
    exact gz_EIu hE hf rfl dX12_refuses_49
  · rw [if_neg h1] at hf
    refine gr_iload_n X dX12_refuses_13 1 rfl rfl ?_
    refine gr_iconst 1 X dX12_refuses_14 (by decide) ?_
    refine gr_icmp_ne 27 X dX12_refuses_15 (by decide) (fun h5 => ?_) (fun h5 => ?_)
    · rw [if_pos h5] at hf
      refine gr_aload_n X dX12_refuses_18 0 rfl rfl ?_
      refine gr_iload_n X dX12_refuses_19 2 rfl rfl ?_
      refine gr_iload_n X dX12_refuses_20 3 rfl rfl ?_
      obtain ⟨v6, M7, q8, hf⟩ := gz_bd2e hf
      refine gr_callI (asF := fun ad => [.ref (ad 0), .int a1, .int a2]) [.int a1, .int a2] X (c12_refusesCome q8) rfl wm_RX12_344 rfl (X.kd gk_R0).1 ((X.kd gk_R0).2 _ _ _ _) rfl (by decide) (by decide) rfl (Nat.le_of_ble_eq_true rfl) hc dX12_refuses_21 ?_
      refine gr_goto 49 X dX12_refuses_24 (by decide) ?_
      exact gz_EIu hE hf rfl dX12_refuses_49
    · rw [if_neg h5] at hf
      refine gr_iload_n X dX12_refuses_27 2 rfl rfl ?_
      refine gr_iconst 0 X dX12_refuses_28 (by decide) ?_
      refine gr_aload_n X dX12_refuses_29 0 rfl rfl ?_
      refine gf12_0 X wf_RX12_9 dX12_refuses_30 ?_
      refine gr_bipush 81 X dX12_refuses_33 (by decide) ?_
      obtain ⟨h9, hf⟩ := gz_cke hf
      refine gr_iaload X gk_R1 (gz_inp h9) dX12_refuses_35 ?_
      refine gr_iconst 1 X dX12_refuses_36 (by decide) ?_
      refine gr_isub X dX12_refuses_37 ?_
      obtain ⟨v10, M11, q12, hf⟩ := gz_bd2e hf
      refine gr_callSI (asF := fun _ => [.int a1, .int 0, .int ((M0.1 1 (81 : Int32).toNatClampNeg) - 1)]) [.int a1, .int 0, .int ((M0.1 1 (81 : Int32).toNatClampNeg) - 1)] X (c12_in q12) rfl wm_RX12_133 rfl (by decide) (by decide) rfl (Nat.le_of_ble_eq_true rfl) hc dX12_refuses_38 ?_
      refine gr_if_eq 48 X dX12_refuses_41 (by decide) (fun h13 => ?_) (fun h13 => ?_)
      · rw [if_pos h13] at hf
        refine gr_iconst (-1) X dX12_refuses_48 (by decide) ?_
        exact gz_EIu hE hf rfl dX12_refuses_49
      · rw [if_neg h13] at hf
        refine gr_iconst 0 X dX12_refuses_44 (by decide) ?_
        refine gr_goto 49 X dX12_refuses_45 (by decide) ?_
        exact gz_EIu hE hf rfl dX12_refuses_49

def f12_doChange_92 : Nat → Int32 → gz_M → Option (gz_M)
  | 0, _, _ => none
  | n + 1, x4, M0 => gz_ck (gz_inb 81 106) <| if ((M0.1 1 (81 : Int32).toNatClampNeg) - 1) ≤ x4 then (gz_ck (gz_inb 81 106) <| gz_ck (gz_inb 81 106) <| gz_lt (gz_w M0 1 (81 : Int32).toNatClampNeg ((M0.1 1 (81 : Int32).toNatClampNeg) - 1)) fun M5 => gz_ck (gz_inb 81 106) <| gz_ck (gz_inb (82 + (M5.1 1 (81 : Int32).toNatClampNeg)) 106) <| gz_lt (gz_w M5 1 (82 + (M5.1 1 (81 : Int32).toNatClampNeg)).toNatClampNeg 0) fun M8 => some M8) else (gz_ck (gz_inb ((82 + x4) + 1) 106) <| gz_ck (gz_inb (82 + x4) 106) <| gz_lt (gz_w M0 1 (82 + x4).toNatClampNeg (M0.1 1 ((82 + x4) + 1).toNatClampNeg)) fun M11 => gz_lt (x4 + 1) fun v12 => f12_doChange_92 n v12 M11)
theorem b12_doChange_92 {x : gz_X} {pf : Nat → Bool} {l : Launch} {M' : gz_M} (X : gz_Ok x cX12_doChange RX12 5 1 gz_cfR pf l) (hc : gx_cells x ≤ (gx_R x).cells ∧ gx_slots x ≤ (gx_R x).slots) (hE : gz_EV x cX12_doChange M') : ∀ (n : Nat) (x4 : Int32) (M0 : gz_M), f12_doChange_92 n x4 M0 = some M' → gz_At x 92 [(0, .ref (gx_ad x 0)), (4, .int x4)] [] M0 := by
  intro n
  induction n with
  | zero =>
    intro x4 M0  hf
    rw [f12_doChange_92] at hf
    cases hf
  | succ n ih =>
    intro x4 M0  hf
    rw [f12_doChange_92] at hf
    refine gr_iload X dX12_doChange_92 1 rfl ?_
    refine gr_aload_n X dX12_doChange_94 0 rfl rfl ?_
    refine gf12_0 X wf_RX12_9 dX12_doChange_95 ?_
    refine gr_bipush 81 X dX12_doChange_98 (by decide) ?_
    obtain ⟨h1, hf⟩ := gz_cke hf
    refine gr_iaload X gk_R1 (gz_inp h1) dX12_doChange_100 ?_
    refine gr_iconst 1 X dX12_doChange_101 (by decide) ?_
    refine gr_isub X dX12_doChange_102 ?_
    refine gr_icmp_ge 134 X dX12_doChange_103 (by decide) (fun h2 => ?_) (fun h2 => ?_)
    · rw [if_pos h2] at hf
      refine gr_aload_n X dX12_doChange_134 0 rfl rfl ?_
      refine gf12_0 X wf_RX12_9 dX12_doChange_135 ?_
      refine gr_bipush 81 X dX12_doChange_138 (by decide) ?_
      refine gr_dup2 X dX12_doChange_140 rfl rfl ?_
      obtain ⟨h3, hf⟩ := gz_cke hf
      refine gr_iaload X gk_R1 (gz_inp h3) dX12_doChange_141 ?_
      refine gr_iconst 1 X dX12_doChange_142 (by decide) ?_
      refine gr_isub X dX12_doChange_143 ?_
      obtain ⟨h4, hf⟩ := gz_cke hf
      obtain ⟨M5, eM5, hf⟩ := gz_lte hf
      refine gr_iastore X gk_R1 (gz_inp h4) eM5 dX12_doChange_144 ?_
      refine gr_aload_n X dX12_doChange_145 0 rfl rfl ?_
      refine gf12_0 X wf_RX12_9 dX12_doChange_146 ?_
      refine gr_bipush 82 X dX12_doChange_149 (by decide) ?_
      refine gr_aload_n X dX12_doChange_151 0 rfl rfl ?_
      refine gf12_0 X wf_RX12_9 dX12_doChange_152 ?_
      refine gr_bipush 81 X dX12_doChange_155 (by decide) ?_
      obtain ⟨h6, hf⟩ := gz_cke hf
      refine gr_iaload X gk_R1 (gz_inp h6) dX12_doChange_157 ?_
      refine gr_iadd X dX12_doChange_158 ?_
      refine gr_iconst 0 X dX12_doChange_159 (by decide) ?_
      obtain ⟨h7, hf⟩ := gz_cke hf
      obtain ⟨M8, eM8, hf⟩ := gz_lte hf
      refine gr_iastore X gk_R1 (gz_inp h7) eM8 dX12_doChange_160 ?_
      exact gz_EVu hE hf dX12_doChange_161
    · rw [if_neg h2] at hf
      refine gr_aload_n X dX12_doChange_106 0 rfl rfl ?_
      refine gf12_0 X wf_RX12_9 dX12_doChange_107 ?_
      refine gr_bipush 82 X dX12_doChange_110 (by decide) ?_
      refine gr_iload X dX12_doChange_112 1 rfl ?_
      refine gr_iadd X dX12_doChange_114 ?_
      refine gr_aload_n X dX12_doChange_115 0 rfl rfl ?_
      refine gf12_0 X wf_RX12_9 dX12_doChange_116 ?_
      refine gr_bipush 82 X dX12_doChange_119 (by decide) ?_
      refine gr_iload X dX12_doChange_121 1 rfl ?_
      refine gr_iadd X dX12_doChange_123 ?_
      refine gr_iconst 1 X dX12_doChange_124 (by decide) ?_
      refine gr_iadd X dX12_doChange_125 ?_
      obtain ⟨h9, hf⟩ := gz_cke hf
      refine gr_iaload X gk_R1 (gz_inp h9) dX12_doChange_126 ?_
      obtain ⟨h10, hf⟩ := gz_cke hf
      obtain ⟨M11, eM11, hf⟩ := gz_lte hf
      refine gr_iastore X gk_R1 (gz_inp h10) eM11 dX12_doChange_127 ?_
      obtain ⟨v12, ev12, hf⟩ := gz_lte hf
      refine gr_iinc 1 [(4, .int v12), (0, .ref (gx_ad x 0))] X dX12_doChange_128 1 rfl (by decide) ev12 (by decide) rfl ?_
      refine gr_goto 92 X dX12_doChange_131 (by decide) ?_
      refine gr_sub (lv' := [(0, .ref (gx_ad x 0)), (4, .int v12)]) [1, 0] rfl ?_
      exact ih _ _ hf

def f12_doChange_83 (x1 : Int32) (x2 : Int32) (M0 : gz_M) : Option (gz_M) := if x1 = 2 then (f12_doChange_92 gz_FU x2 M0) else (some M0)
theorem b12_doChange_83 {x : gz_X} {pf : Nat → Bool} {l : Launch} {M' : gz_M} (X : gz_Ok x cX12_doChange RX12 5 1 gz_cfR pf l) (hc : gx_cells x ≤ (gx_R x).cells ∧ gx_slots x ≤ (gx_R x).slots) (hE : gz_EV x cX12_doChange M') : ∀ (x1 : Int32) (x2 : Int32) (M0 : gz_M), f12_doChange_83 x1 x2 M0 = some M' → gz_At x 83 [(0, .ref (gx_ad x 0)), (1, .int x1), (2, .int x2)] [] M0 := by
  intro x1 x2 M0  hf
  rw [f12_doChange_83] at hf
  refine gr_iload_n X dX12_doChange_83 1 rfl rfl ?_
  refine gr_iconst 2 X dX12_doChange_84 (by decide) ?_
  refine gr_icmp_eq 89 X dX12_doChange_85 (by decide) (fun h1 => ?_) (fun h1 => ?_)
  · rw [if_pos h1] at hf
    refine gr_iload_n X dX12_doChange_89 2 rfl rfl ?_
    refine gr_istore [(4, .int x2), (0, .ref (gx_ad x 0)), (1, .int x1), (2, .int x2)] X dX12_doChange_90 rfl (by decide) rfl ?_
    refine gr_sub (lv' := [(0, .ref (gx_ad x 0)), (4, .int x2)]) [1, 0] rfl ?_
    exact b12_doChange_92 X hc hE _ _ _ hf
  · rw [if_neg h1] at hf
    exact gz_EVu hE hf dX12_doChange_88

def f12_doChange_28 : Nat → Int32 → Int32 → Int32 → Int32 → gz_M → Option (gz_M)
  | 0, _, _, _, _, _ => none
  | n + 1, x1, x2, x3, x4, M0 => if x4 ≤ x2 then (gz_ck (gz_inb (82 + x2) 106) <| gz_lt (gz_w M0 1 (82 + x2).toNatClampNeg x3) fun M3 => gz_ck (gz_inb 81 106) <| gz_ck (gz_inb 81 106) <| gz_lt (gz_w M3 1 (81 : Int32).toNatClampNeg ((M3.1 1 (81 : Int32).toNatClampNeg) + 1)) fun M6 => f12_doChange_83 x1 x2 M6) else (gz_ck (gz_inb ((82 + x4) - 1) 106) <| gz_ck (gz_inb (82 + x4) 106) <| gz_lt (gz_w M0 1 (82 + x4).toNatClampNeg (M0.1 1 ((82 + x4) - 1).toNatClampNeg)) fun M9 => gz_lt (x4 + (-1)) fun v10 => f12_doChange_28 n x1 x2 x3 v10 M9)
theorem b12_doChange_28 {x : gz_X} {pf : Nat → Bool} {l : Launch} {M' : gz_M} (X : gz_Ok x cX12_doChange RX12 5 1 gz_cfR pf l) (hc : gx_cells x ≤ (gx_R x).cells ∧ gx_slots x ≤ (gx_R x).slots) (hE : gz_EV x cX12_doChange M') : ∀ (n : Nat) (x1 : Int32) (x2 : Int32) (x3 : Int32) (x4 : Int32) (M0 : gz_M), f12_doChange_28 n x1 x2 x3 x4 M0 = some M' → gz_At x 28 [(0, .ref (gx_ad x 0)), (1, .int x1), (2, .int x2), (3, .int x3), (4, .int x4)] [] M0 := by
  intro n
  induction n with
  | zero =>
    intro x1 x2 x3 x4 M0  hf
    rw [f12_doChange_28] at hf
    cases hf
  | succ n ih =>
    intro x1 x2 x3 x4 M0  hf
    rw [f12_doChange_28] at hf
    refine gr_iload X dX12_doChange_28 4 rfl ?_
    refine gr_iload_n X dX12_doChange_30 2 rfl rfl ?_
    refine gr_icmp_le 62 X dX12_doChange_31 (by decide) (fun h1 => ?_) (fun h1 => ?_)
    · rw [if_pos h1] at hf
      refine gr_aload_n X dX12_doChange_62 0 rfl rfl ?_
      refine gf12_0 X wf_RX12_9 dX12_doChange_63 ?_
      refine gr_bipush 82 X dX12_doChange_66 (by decide) ?_
      refine gr_iload_n X dX12_doChange_68 2 rfl rfl ?_
      refine gr_iadd X dX12_doChange_69 ?_
      refine gr_iload_n X dX12_doChange_70 3 rfl rfl ?_
      obtain ⟨h2, hf⟩ := gz_cke hf
      obtain ⟨M3, eM3, hf⟩ := gz_lte hf
      refine gr_iastore X gk_R1 (gz_inp h2) eM3 dX12_doChange_71 ?_
      refine gr_aload_n X dX12_doChange_72 0 rfl rfl ?_
      refine gf12_0 X wf_RX12_9 dX12_doChange_73 ?_
      refine gr_bipush 81 X dX12_doChange_76 (by decide) ?_
      refine gr_dup2 X dX12_doChange_78 rfl rfl ?_
      obtain ⟨h4, hf⟩ := gz_cke hf
      refine gr_iaload X gk_R1 (gz_inp h4) dX12_doChange_79 ?_
      refine gr_iconst 1 X dX12_doChange_80 (by decide) ?_
      refine gr_iadd X dX12_doChange_81 ?_
      obtain ⟨h5, hf⟩ := gz_cke hf
      obtain ⟨M6, eM6, hf⟩ := gz_lte hf
      refine gr_iastore X gk_R1 (gz_inp h5) eM6 dX12_doChange_82 ?_
      refine gr_sub (lv' := [(0, .ref (gx_ad x 0)), (1, .int x1), (2, .int x2)]) [0, 1, 2] rfl ?_
      exact b12_doChange_83 X hc hE _ _ _ hf
    · rw [if_neg h1] at hf
      refine gr_aload_n X dX12_doChange_34 0 rfl rfl ?_
      refine gf12_0 X wf_RX12_9 dX12_doChange_35 ?_
      refine gr_bipush 82 X dX12_doChange_38 (by decide) ?_
      refine gr_iload X dX12_doChange_40 4 rfl ?_
      refine gr_iadd X dX12_doChange_42 ?_
      refine gr_aload_n X dX12_doChange_43 0 rfl rfl ?_
      refine gf12_0 X wf_RX12_9 dX12_doChange_44 ?_
      refine gr_bipush 82 X dX12_doChange_47 (by decide) ?_
      refine gr_iload X dX12_doChange_49 4 rfl ?_
      refine gr_iadd X dX12_doChange_51 ?_
      refine gr_iconst 1 X dX12_doChange_52 (by decide) ?_
      refine gr_isub X dX12_doChange_53 ?_
      obtain ⟨h7, hf⟩ := gz_cke hf
      refine gr_iaload X gk_R1 (gz_inp h7) dX12_doChange_54 ?_
      obtain ⟨h8, hf⟩ := gz_cke hf
      obtain ⟨M9, eM9, hf⟩ := gz_lte hf
      refine gr_iastore X gk_R1 (gz_inp h8) eM9 dX12_doChange_55 ?_
      obtain ⟨v10, ev10, hf⟩ := gz_lte hf
      refine gr_iinc (-1) [(4, .int v10), (0, .ref (gx_ad x 0)), (1, .int x1), (2, .int x2), (3, .int x3)] X dX12_doChange_56 4 rfl (by decide) ev10 (by decide) rfl ?_
      refine gr_goto 28 X dX12_doChange_59 (by decide) ?_
      refine gr_sub (lv' := [(0, .ref (gx_ad x 0)), (1, .int x1), (2, .int x2), (3, .int x3), (4, .int v10)]) [1, 2, 3, 4, 0] rfl ?_
      exact ih _ _ _ _ _ hf

def f12_doChange_14 (x1 : Int32) (x2 : Int32) (x3 : Int32) (M0 : gz_M) : Option (gz_M) := if x1 = 1 then (gz_ck (gz_inb 81 106) <| gz_lt (M0.1 1 (81 : Int32).toNatClampNeg) fun v3 => f12_doChange_28 gz_FU x1 x2 x3 v3 M0) else (f12_doChange_83 x1 x2 M0)
theorem b12_doChange_14 {x : gz_X} {pf : Nat → Bool} {l : Launch} {M' : gz_M} (X : gz_Ok x cX12_doChange RX12 5 1 gz_cfR pf l) (hc : gx_cells x ≤ (gx_R x).cells ∧ gx_slots x ≤ (gx_R x).slots) (hE : gz_EV x cX12_doChange M') : ∀ (x1 : Int32) (x2 : Int32) (x3 : Int32) (M0 : gz_M), f12_doChange_14 x1 x2 x3 M0 = some M' → gz_At x 14 [(0, .ref (gx_ad x 0)), (1, .int x1), (2, .int x2), (3, .int x3)] [] M0 := by
  intro x1 x2 x3 M0  hf
  rw [f12_doChange_14] at hf
  refine gr_iload_n X dX12_doChange_14 1 rfl rfl ?_
  refine gr_iconst 1 X dX12_doChange_15 (by decide) ?_
  refine gr_icmp_ne 83 X dX12_doChange_16 (by decide) (fun h1 => ?_) (fun h1 => ?_)
  · rw [if_pos h1] at hf
    refine gr_aload_n X dX12_doChange_19 0 rfl rfl ?_
    refine gf12_0 X wf_RX12_9 dX12_doChange_20 ?_
    refine gr_bipush 81 X dX12_doChange_23 (by decide) ?_
    obtain ⟨h2, hf⟩ := gz_cke hf
    refine gr_iaload X gk_R1 (gz_inp h2) dX12_doChange_25 ?_
    obtain ⟨v3, ev3, hf⟩ := gz_lte hf
    refine gr_istore [(4, .int v3), (0, .ref (gx_ad x 0)), (1, .int x1), (2, .int x2), (3, .int x3)] X dX12_doChange_26 ev3 (by decide) rfl ?_
    refine gr_sub (lv' := [(0, .ref (gx_ad x 0)), (1, .int x1), (2, .int x2), (3, .int x3), (4, .int v3)]) [1, 2, 3, 4, 0] rfl ?_
    exact b12_doChange_28 X hc hE _ _ _ _ _ _ hf
  · rw [if_neg h1] at hf
    refine gr_sub (lv' := [(0, .ref (gx_ad x 0)), (1, .int x1), (2, .int x2)]) [0, 1, 2] rfl ?_
    exact b12_doChange_83 X hc hE _ _ _ hf

def f12_doChange (a0 : Int32) (a1 : Int32) (a2 : Int32) (M0 : gz_M) : Option (gz_M) := if a0 = 0 then (gz_ck (gz_inb (82 + a1) 106) <| gz_lt (gz_w M0 1 (82 + a1).toNatClampNeg a2) fun M3 => f12_doChange_14 a0 a1 a2 M3) else (f12_doChange_14 a0 a1 a2 M0)
set_option maxRecDepth 100000 in
theorem c12_doChange {pf : Nat → Bool} {l : Launch} {M0 M' : gz_M} {a0 : Int32} {a1 : Int32} {a2 : Int32} (hf : f12_doChange a0 a1 a2 M0 = some M') : gz_CV l gz_cfR yX12_doChange cX12_doChange 5 1 (fun ad => [.ref (ad 0), .int a0, .int a1, .int a2]) pf M0 M' := by
  refine gz_ofV (by decide +kernel) (fun _ => Nat.le_of_ble_eq_true rfl) (fun x X hc hE => ?_)
  show gz_At x 0 [(0, .ref (gx_ad x 0)), (1, .int a0), (2, .int a1), (3, .int a2)] [] M0
  unfold f12_doChange at hf
  refine gr_iload_n X dX12_doChange_0 1 rfl rfl ?_
  refine gr_if_ne 14 X dX12_doChange_1 (by decide) (fun h1 => ?_) (fun h1 => ?_)
  · rw [if_pos h1] at hf
    refine gr_aload_n X dX12_doChange_4 0 rfl rfl ?_
    refine gf12_0 X wf_RX12_9 dX12_doChange_5 ?_
    refine gr_bipush 82 X dX12_doChange_8 (by decide) ?_
    refine gr_iload_n X dX12_doChange_10 2 rfl rfl ?_
    refine gr_iadd X dX12_doChange_11 ?_
    refine gr_iload_n X dX12_doChange_12 3 rfl rfl ?_
    obtain ⟨h2, hf⟩ := gz_cke hf
    obtain ⟨M3, eM3, hf⟩ := gz_lte hf
    refine gr_iastore X gk_R1 (gz_inp h2) eM3 dX12_doChange_13 ?_
    exact b12_doChange_14 X hc hE _ _ _ _ hf
  · rw [if_neg h1] at hf
    exact b12_doChange_14 X hc hE _ _ _ _ hf

def f12_oldAt_51 : Nat → Int32 → Int32 → Int32 → gz_M → Option (Int32 × gz_M)
  | 0, _, _, _, _ => none
  | n + 1, x2, x3, x4, M0 => if (M0.1 0 28) ≤ x4 then (if x3 = 0 then (some ((-1), M0)) else (some (x2, M0))) else (if x3 = 0 then (gz_lt (x4 + 1) fun v4 => f12_oldAt_51 n x2 0 v4 M0) else (gz_ck (gz_inb (((12 * x2) + 7) + x4) 300) <| gz_ck (gz_inb x4 5) <| if (M0.1 23 (((12 * x2) + 7) + x4).toNatClampNeg) = (M0.1 16 x4.toNatClampNeg) then (gz_lt (x4 + 1) fun v8 => f12_oldAt_51 n x2 1 v8 M0) else (gz_lt (x4 + 1) fun v9 => f12_oldAt_51 n x2 0 v9 M0)))
theorem b12_oldAt_51 {x : gz_X} {pf : Nat → Bool} {l : Launch} {r : Int32} {M' : gz_M} (X : gz_Ok x cX12_oldAt RX12 5 1 gz_cfR pf l) (hc : gx_cells x ≤ (gx_R x).cells ∧ gx_slots x ≤ (gx_R x).slots) (hE : gz_EI x cX12_oldAt .int r M') : ∀ (n : Nat) (x2 : Int32) (x3 : Int32) (x4 : Int32) (M0 : gz_M), f12_oldAt_51 n x2 x3 x4 M0 = some (r, M') → gz_At x 51 [(0, .ref (gx_ad x 0)), (2, .int x2), (3, .int x3), (4, .int x4)] [] M0 := by
  intro n
  induction n with
  | zero =>
    intro x2 x3 x4 M0  hf
    rw [f12_oldAt_51] at hf
    cases hf
  | succ n ih =>
    intro x2 x3 x4 M0  hf
    rw [f12_oldAt_51] at hf
    refine gr_iload X dX12_oldAt_51 3 rfl ?_
    refine gr_aload_n X dX12_oldAt_53 0 rfl rfl ?_
    refine gf12_28 X wf_RX12_232 dX12_oldAt_54 ?_
    refine gr_icmp_ge 101 X dX12_oldAt_57 (by decide) (fun h1 => ?_) (fun h1 => ?_)
    · rw [if_pos h1] at hf
      refine gr_iload_n X dX12_oldAt_101 2 rfl rfl ?_
      refine gr_if_eq 109 X dX12_oldAt_102 (by decide) (fun h2 => ?_) (fun h2 => ?_)
      · rw [if_pos h2] at hf
        refine gr_iconst (-1) X dX12_oldAt_109 (by decide) ?_
        exact gz_EIu hE hf rfl dX12_oldAt_110
      · rw [if_neg h2] at hf
        refine gr_iload_n X dX12_oldAt_105 1 rfl rfl ?_
        refine gr_goto 110 X dX12_oldAt_106 (by decide) ?_
        exact gz_EIu hE hf rfl dX12_oldAt_110
    · rw [if_neg h1] at hf
      refine gr_iload_n X dX12_oldAt_60 2 rfl rfl ?_
      refine gr_if_eq 93 X dX12_oldAt_61 (by decide) (fun h3 => ?_) (fun h3 => ?_)
      · rw [if_pos h3] at hf
        refine gr_iconst 0 X dX12_oldAt_93 (by decide) ?_
        refine gr_istore_n [(3, .int 0), (0, .ref (gx_ad x 0)), (2, .int x2), (4, .int x4)] X dX12_oldAt_94 rfl rfl (by decide) rfl ?_
        obtain ⟨v4, ev4, hf⟩ := gz_lte hf
        refine gr_iinc 1 [(4, .int v4), (3, .int 0), (0, .ref (gx_ad x 0)), (2, .int x2)] X dX12_oldAt_95 3 rfl (by decide) ev4 (by decide) rfl ?_
        refine gr_goto 51 X dX12_oldAt_98 (by decide) ?_
        refine gr_sub (lv' := [(0, .ref (gx_ad x 0)), (2, .int x2), (3, .int 0), (4, .int v4)]) [2, 3, 1, 0] rfl ?_
        exact ih _ _ _ _ hf
      · rw [if_neg h3] at hf
        refine gr_aload_n X dX12_oldAt_64 0 rfl rfl ?_
        refine gf12_38 X wf_RX12_80 dX12_oldAt_65 ?_
        refine gr_bipush 12 X dX12_oldAt_68 (by decide) ?_
        refine gr_iload_n X dX12_oldAt_70 1 rfl rfl ?_
        refine gr_imul X dX12_oldAt_71 ?_
        refine gr_bipush 7 X dX12_oldAt_72 (by decide) ?_
        refine gr_iadd X dX12_oldAt_74 ?_
        refine gr_iload X dX12_oldAt_75 3 rfl ?_
        refine gr_iadd X dX12_oldAt_77 ?_
        obtain ⟨h5, hf⟩ := gz_cke hf
        refine gr_iaload X gk_R23 (gz_inp h5) dX12_oldAt_78 ?_
        refine gr_aload_n X dX12_oldAt_79 0 rfl rfl ?_
        refine gf12_27 X wf_RX12_58 dX12_oldAt_80 ?_
        refine gr_iload X dX12_oldAt_83 3 rfl ?_
        obtain ⟨h6, hf⟩ := gz_cke hf
        refine gr_iaload X gk_R16 (gz_inp h6) dX12_oldAt_85 ?_
        refine gr_icmp_ne 93 X dX12_oldAt_86 (by decide) (fun h7 => ?_) (fun h7 => ?_)
        · rw [if_pos h7] at hf
          refine gr_iconst 1 X dX12_oldAt_89 (by decide) ?_
          refine gr_goto 94 X dX12_oldAt_90 (by decide) ?_
          refine gr_istore_n [(3, .int 1), (0, .ref (gx_ad x 0)), (2, .int x2), (4, .int x4)] X dX12_oldAt_94 rfl rfl (by decide) rfl ?_
          obtain ⟨v8, ev8, hf⟩ := gz_lte hf
          refine gr_iinc 1 [(4, .int v8), (3, .int 1), (0, .ref (gx_ad x 0)), (2, .int x2)] X dX12_oldAt_95 3 rfl (by decide) ev8 (by decide) rfl ?_
          refine gr_goto 51 X dX12_oldAt_98 (by decide) ?_
          refine gr_sub (lv' := [(0, .ref (gx_ad x 0)), (2, .int x2), (3, .int 1), (4, .int v8)]) [2, 3, 1, 0] rfl ?_
          exact ih _ _ _ _ hf
        · rw [if_neg h7] at hf
          refine gr_iconst 0 X dX12_oldAt_93 (by decide) ?_
          refine gr_istore_n [(3, .int 0), (0, .ref (gx_ad x 0)), (2, .int x2), (4, .int x4)] X dX12_oldAt_94 rfl rfl (by decide) rfl ?_
          obtain ⟨v9, ev9, hf⟩ := gz_lte hf
          refine gr_iinc 1 [(4, .int v9), (3, .int 0), (0, .ref (gx_ad x 0)), (2, .int x2)] X dX12_oldAt_95 3 rfl (by decide) ev9 (by decide) rfl ?_
          refine gr_goto 51 X dX12_oldAt_98 (by decide) ?_
          refine gr_sub (lv' := [(0, .ref (gx_ad x 0)), (2, .int x2), (3, .int 0), (4, .int v9)]) [2, 3, 1, 0] rfl ?_
          exact ih _ _ _ _ hf

def f12_oldAt_2 : Nat → Int32 → Int32 → gz_M → Option (Int32 × gz_M)
  | 0, _, _, _ => none
  | n + 1, x1, x2, M0 => if (M0.1 0 39) ≤ x2 then (some ((-1), M0)) else (gz_ck (gz_inb ((12 * x2) + 2) 300) <| if (M0.1 23 ((12 * x2) + 2).toNatClampNeg) = x1 then (gz_ck (gz_inb ((12 * x2) + 5) 300) <| if (M0.1 23 ((12 * x2) + 5).toNatClampNeg) = (M0.1 0 28) then (f12_oldAt_51 gz_FU x2 1 0 M0) else (gz_lt (x2 + 1) fun v6 => f12_oldAt_2 n x1 v6 M0)) else (gz_lt (x2 + 1) fun v7 => f12_oldAt_2 n x1 v7 M0))
theorem b12_oldAt_2 {x : gz_X} {pf : Nat → Bool} {l : Launch} {r : Int32} {M' : gz_M} (X : gz_Ok x cX12_oldAt RX12 5 1 gz_cfR pf l) (hc : gx_cells x ≤ (gx_R x).cells ∧ gx_slots x ≤ (gx_R x).slots) (hE : gz_EI x cX12_oldAt .int r M') : ∀ (n : Nat) (x1 : Int32) (x2 : Int32) (M0 : gz_M), f12_oldAt_2 n x1 x2 M0 = some (r, M') → gz_At x 2 [(0, .ref (gx_ad x 0)), (1, .int x1), (2, .int x2)] [] M0 := by
  intro n
  induction n with
  | zero =>
    intro x1 x2 M0  hf
    rw [f12_oldAt_2] at hf
    cases hf
  | succ n ih =>
    intro x1 x2 M0  hf
    rw [f12_oldAt_2] at hf
    refine gr_iload_n X dX12_oldAt_2 2 rfl rfl ?_
    refine gr_aload_n X dX12_oldAt_3 0 rfl rfl ?_
    refine gf12_39 X wf_RX12_287 dX12_oldAt_4 ?_
    refine gr_icmp_ge 117 X dX12_oldAt_7 (by decide) (fun h1 => ?_) (fun h1 => ?_)
    · rw [if_pos h1] at hf
      refine gr_iconst (-1) X dX12_oldAt_117 (by decide) ?_
      exact gz_EIu hE hf rfl dX12_oldAt_118
    · rw [if_neg h1] at hf
      refine gr_aload_n X dX12_oldAt_10 0 rfl rfl ?_
      refine gf12_38 X wf_RX12_80 dX12_oldAt_11 ?_
      refine gr_bipush 12 X dX12_oldAt_14 (by decide) ?_
      refine gr_iload_n X dX12_oldAt_16 2 rfl rfl ?_
      refine gr_imul X dX12_oldAt_17 ?_
      refine gr_iconst 2 X dX12_oldAt_18 (by decide) ?_
      refine gr_iadd X dX12_oldAt_19 ?_
      obtain ⟨h2, hf⟩ := gz_cke hf
      refine gr_iaload X gk_R23 (gz_inp h2) dX12_oldAt_20 ?_
      refine gr_iload_n X dX12_oldAt_21 1 rfl rfl ?_
      refine gr_icmp_ne 111 X dX12_oldAt_22 (by decide) (fun h3 => ?_) (fun h3 => ?_)
      · rw [if_pos h3] at hf
        refine gr_aload_n X dX12_oldAt_25 0 rfl rfl ?_
        refine gf12_38 X wf_RX12_80 dX12_oldAt_26 ?_
        refine gr_bipush 12 X dX12_oldAt_29 (by decide) ?_
        refine gr_iload_n X dX12_oldAt_31 2 rfl rfl ?_
        refine gr_imul X dX12_oldAt_32 ?_
        refine gr_iconst 5 X dX12_oldAt_33 (by decide) ?_
        refine gr_iadd X dX12_oldAt_34 ?_
        obtain ⟨h4, hf⟩ := gz_cke hf
        refine gr_iaload X gk_R23 (gz_inp h4) dX12_oldAt_35 ?_
        refine gr_aload_n X dX12_oldAt_36 0 rfl rfl ?_
        refine gf12_28 X wf_RX12_232 dX12_oldAt_37 ?_
        refine gr_icmp_eq 46 X dX12_oldAt_40 (by decide) (fun h5 => ?_) (fun h5 => ?_)
        · rw [if_pos h5] at hf
          refine gr_iconst 1 X dX12_oldAt_46 (by decide) ?_
          refine gr_istore_n [(3, .int 1), (0, .ref (gx_ad x 0)), (1, .int x1), (2, .int x2)] X dX12_oldAt_47 rfl rfl (by decide) rfl ?_
          refine gr_iconst 0 X dX12_oldAt_48 (by decide) ?_
          refine gr_istore [(4, .int 0), (3, .int 1), (0, .ref (gx_ad x 0)), (1, .int x1), (2, .int x2)] X dX12_oldAt_49 rfl (by decide) rfl ?_
          refine gr_sub (lv' := [(0, .ref (gx_ad x 0)), (2, .int x2), (3, .int 1), (4, .int 0)]) [2, 4, 1, 0] rfl ?_
          exact b12_oldAt_51 X hc hE _ _ _ _ _ hf
        · rw [if_neg h5] at hf
          refine gr_goto 111 X dX12_oldAt_43 (by decide) ?_
          obtain ⟨v6, ev6, hf⟩ := gz_lte hf
          refine gr_iinc 1 [(2, .int v6), (0, .ref (gx_ad x 0)), (1, .int x1)] X dX12_oldAt_111 2 rfl (by decide) ev6 (by decide) rfl ?_
          refine gr_goto 2 X dX12_oldAt_114 (by decide) ?_
          refine gr_sub (lv' := [(0, .ref (gx_ad x 0)), (1, .int x1), (2, .int v6)]) [1, 2, 0] rfl ?_
          exact ih _ _ _ hf
      · rw [if_neg h3] at hf
        obtain ⟨v7, ev7, hf⟩ := gz_lte hf
        refine gr_iinc 1 [(2, .int v7), (0, .ref (gx_ad x 0)), (1, .int x1)] X dX12_oldAt_111 2 rfl (by decide) ev7 (by decide) rfl ?_
        refine gr_goto 2 X dX12_oldAt_114 (by decide) ?_
        refine gr_sub (lv' := [(0, .ref (gx_ad x 0)), (1, .int x1), (2, .int v7)]) [1, 2, 0] rfl ?_
        exact ih _ _ _ hf

def f12_oldAt (a0 : Int32) (M0 : gz_M) : Option (Int32 × gz_M) := f12_oldAt_2 gz_FU a0 0 M0
set_option maxRecDepth 100000 in
theorem c12_oldAt {pf : Nat → Bool} {l : Launch} {r : Int32} {M0 M' : gz_M} {a0 : Int32} (hf : f12_oldAt a0 M0 = some (r, M')) : gz_CI l gz_cfR yX12_oldAt cX12_oldAt 5 1 .int (fun ad => [.ref (ad 0), .int a0]) pf M0 r M' := by
  refine gz_ofI (by decide +kernel) (fun _ => Nat.le_of_ble_eq_true rfl) (fun x X hc hE => ?_)
  show gz_At x 0 [(0, .ref (gx_ad x 0)), (1, .int a0)] [] M0
  unfold f12_oldAt at hf
  refine gr_iconst 0 X dX12_oldAt_0 (by decide) ?_
  refine gr_istore_n [(2, .int 0), (0, .ref (gx_ad x 0)), (1, .int a0)] X dX12_oldAt_1 rfl rfl (by decide) rfl ?_
  refine gr_sub (lv' := [(0, .ref (gx_ad x 0)), (1, .int a0), (2, .int 0)]) [1, 2, 0] rfl ?_
  exact b12_oldAt_2 X hc hE _ _ _ _ hf

def f12_changed_276 (x5 : Int32) (x6 : Int32) (s0 : Int32) (M0 : gz_M) : Option (Int32 × gz_M) := gz_lt (gz_w M0 0 4 0) fun M1 => gz_bd (f12_tell (x5.toInt64) M1) fun M2 => gz_bd (f12_tell (x6.toInt64) M2) fun M4 => gz_bd (f12_tell (s0.toInt64) M4) fun M6 => gz_bd (f12_cutAll 0 M6) fun M8 => some (M8.1 0 31, M8)
theorem b12_changed_276 {x : gz_X} {pf : Nat → Bool} {l : Launch} {r : Int32} {M' : gz_M} (X : gz_Ok x cX12_changed RX12 9 4 gz_cfR pf l) (hc : gx_cells x ≤ (gx_R x).cells ∧ gx_slots x ≤ (gx_R x).slots) (hE : gz_EI x cX12_changed .int r M') : ∀ (x5 : Int32) (x6 : Int32) (s0 : Int32) (M0 : gz_M), f12_changed_276 x5 x6 s0 M0 = some (r, M') → gz_At x 276 [(0, .ref (gx_ad x 0)), (5, .int x5), (6, .int x6)] [.int s0] M0 := by
  intro x5 x6 s0 M0  hf
  rw [f12_changed_276] at hf
  refine gr_istore [(8, .int s0), (0, .ref (gx_ad x 0)), (5, .int x5), (6, .int x6)] X dX12_changed_276 rfl (by decide) rfl ?_
  refine gr_aload_n X dX12_changed_278 1 rfl rfl ?_
  refine gr_iconst 0 X dX12_changed_279 (by decide) ?_
  obtain ⟨M1, eM1, hf⟩ := gz_lte hf
  refine gp12_4 X wf_RX12_127 eM1 dX12_changed_280 ?_
  refine gr_aload_n X dX12_changed_283 1 rfl rfl ?_
  refine gr_iload X dX12_changed_284 2 rfl ?_
  refine gr_i2l X dX12_changed_286 ?_
  obtain ⟨M2, q3, hf⟩ := gz_bde hf
  refine gr_callV (asF := fun ad => [.ref (ad 0), .long (x5.toInt64)]) [.long (x5.toInt64)] X (c12_tell q3) rfl wm_RX12_280 rfl (X.kd gk_R0).1 ((X.kd gk_R0).2 _ _ _ _) rfl (by decide) (by decide) rfl (Nat.le_of_ble_eq_true rfl) hc dX12_changed_287 ?_
  refine gr_aload_n X dX12_changed_290 1 rfl rfl ?_
  refine gr_iload X dX12_changed_291 3 rfl ?_
  refine gr_i2l X dX12_changed_293 ?_
  obtain ⟨M4, q5, hf⟩ := gz_bde hf
  refine gr_callV (asF := fun ad => [.ref (ad 0), .long (x6.toInt64)]) [.long (x6.toInt64)] X (c12_tell q5) rfl wm_RX12_280 rfl (X.kd gk_R0).1 ((X.kd gk_R0).2 _ _ _ _) rfl (by decide) (by decide) rfl (Nat.le_of_ble_eq_true rfl) hc dX12_changed_294 ?_
  refine gr_aload_n X dX12_changed_297 1 rfl rfl ?_
  refine gr_iload X dX12_changed_298 0 rfl ?_
  refine gr_i2l X dX12_changed_300 ?_
  obtain ⟨M6, q7, hf⟩ := gz_bde hf
  refine gr_callV (asF := fun ad => [.ref (ad 0), .long (s0.toInt64)]) [.long (s0.toInt64)] X (c12_tell q7) rfl wm_RX12_280 rfl (X.kd gk_R0).1 ((X.kd gk_R0).2 _ _ _ _) rfl (by decide) (by decide) rfl (Nat.le_of_ble_eq_true rfl) hc dX12_changed_301 ?_
  refine gr_aload_n X dX12_changed_304 1 rfl rfl ?_
  refine gr_iconst 0 X dX12_changed_305 (by decide) ?_
  obtain ⟨M8, q9, hf⟩ := gz_bde hf
  refine gr_callV (asF := fun ad => [.ref (ad 0), .int 0]) [.int 0] X (c12_cutAll q9) rfl wm_RX12_274 rfl (X.kd gk_R0).1 ((X.kd gk_R0).2 _ _ _ _) rfl (by decide) (by decide) rfl (Nat.le_of_ble_eq_true rfl) hc dX12_changed_306 ?_
  refine gr_aload_n X dX12_changed_309 1 rfl rfl ?_
  refine gf12_31 X wf_RX12_238 dX12_changed_310 ?_
  exact gz_EIu hE hf rfl dX12_changed_313

def f12_changed_257 (x5 : Int32) (x6 : Int32) (x7 : Int32) (M0 : gz_M) : Option (Int32 × gz_M) := if x7 = (-1) then (f12_changed_276 x5 x6 0 M0) else (f12_changed_276 x5 x6 (((M0.1 0 39) - 1) - x7) M0)
theorem b12_changed_257 {x : gz_X} {pf : Nat → Bool} {l : Launch} {r : Int32} {M' : gz_M} (X : gz_Ok x cX12_changed RX12 9 4 gz_cfR pf l) (hc : gx_cells x ≤ (gx_R x).cells ∧ gx_slots x ≤ (gx_R x).slots) (hE : gz_EI x cX12_changed .int r M') : ∀ (x5 : Int32) (x6 : Int32) (x7 : Int32) (M0 : gz_M), f12_changed_257 x5 x6 x7 M0 = some (r, M') → gz_At x 257 [(0, .ref (gx_ad x 0)), (5, .int x5), (6, .int x6), (7, .int x7)] [] M0 := by
  intro x5 x6 x7 M0  hf
  rw [f12_changed_257] at hf
  refine gr_iload X dX12_changed_257 3 rfl ?_
  refine gr_iconst (-1) X dX12_changed_259 (by decide) ?_
  refine gr_icmp_ne 267 X dX12_changed_260 (by decide) (fun h1 => ?_) (fun h1 => ?_)
  · rw [if_pos h1] at hf
    refine gr_iconst 0 X dX12_changed_263 (by decide) ?_
    refine gr_goto 276 X dX12_changed_264 (by decide) ?_
    refine gr_sub (lv' := [(0, .ref (gx_ad x 0)), (5, .int x5), (6, .int x6)]) [0, 1, 2] rfl ?_
    exact b12_changed_276 X hc hE _ _ _ _ hf
  · rw [if_neg h1] at hf
    refine gr_aload_n X dX12_changed_267 0 rfl rfl ?_
    refine gf12_39 X wf_RX12_287 dX12_changed_268 ?_
    refine gr_iconst 1 X dX12_changed_271 (by decide) ?_
    refine gr_isub X dX12_changed_272 ?_
    refine gr_iload X dX12_changed_273 3 rfl ?_
    refine gr_isub X dX12_changed_275 ?_
    refine gr_sub (lv' := [(0, .ref (gx_ad x 0)), (5, .int x5), (6, .int x6)]) [0, 1, 2] rfl ?_
    exact b12_changed_276 X hc hE _ _ _ _ hf

def f12_changed_246 (c164 : Int32 → Int32 → Int32 → Int32 → Int32 → gz_M → Option (Int32 × gz_M)) (x1 : Int32) (x2 : Int32) (x5 : Int32) (x6 : Int32) (x8 : Int32) (M0 : gz_M) : Option (Int32 × gz_M) := gz_bd2 (f12_oldAt x8 M0) fun v1 M2 => c164 x1 x2 x5 x6 v1 M2
theorem b12_changed_246 {x : gz_X} {pf : Nat → Bool} {l : Launch} {r : Int32} {M' : gz_M} (X : gz_Ok x cX12_changed RX12 9 4 gz_cfR pf l) (hc : gx_cells x ≤ (gx_R x).cells ∧ gx_slots x ≤ (gx_R x).slots) (hE : gz_EI x cX12_changed .int r M') {c164 : Int32 → Int32 → Int32 → Int32 → Int32 → gz_M → Option (Int32 × gz_M)} (hc164 : ∀ (x1 : Int32) (x2 : Int32) (x5 : Int32) (x6 : Int32) (x7 : Int32) (M0 : gz_M), c164 x1 x2 x5 x6 x7 M0 = some (r, M') → gz_At x 164 [(0, .ref (gx_ad x 0)), (1, .int x1), (2, .int x2), (5, .int x5), (6, .int x6), (7, .int x7)] [] M0) : ∀ (x1 : Int32) (x2 : Int32) (x5 : Int32) (x6 : Int32) (x8 : Int32) (M0 : gz_M), f12_changed_246 c164 x1 x2 x5 x6 x8 M0 = some (r, M') → gz_At x 246 [(0, .ref (gx_ad x 0)), (1, .int x1), (2, .int x2), (5, .int x5), (6, .int x6), (8, .int x8)] [] M0 := by
  intro x1 x2 x5 x6 x8 M0  hf
  rw [f12_changed_246] at hf
  refine gr_aload_n X dX12_changed_246 0 rfl rfl ?_
  refine gr_iload X dX12_changed_247 5 rfl ?_
  obtain ⟨v1, M2, q3, hf⟩ := gz_bd2e hf
  refine gr_callI (asF := fun ad => [.ref (ad 0), .int x8]) [.int x8] X (c12_oldAt q3) rfl wm_RX12_353 rfl (X.kd gk_R0).1 ((X.kd gk_R0).2 _ _ _ _) rfl (by decide) (by decide) rfl (Nat.le_of_ble_eq_true rfl) hc dX12_changed_249 ?_
  refine gr_istore [(7, .int v1), (0, .ref (gx_ad x 0)), (1, .int x1), (2, .int x2), (5, .int x5), (6, .int x6), (8, .int x8)] X dX12_changed_252 rfl (by decide) rfl ?_
  refine gr_goto 164 X dX12_changed_254 (by decide) ?_
  refine gr_sub (lv' := [(0, .ref (gx_ad x 0)), (1, .int x1), (2, .int x2), (5, .int x5), (6, .int x6), (7, .int v1)]) [1, 2, 3, 4, 5, 0] rfl ?_
  exact hc164 _ _ _ _ _ _ hf

def f12_changed_223 (c164 : Int32 → Int32 → Int32 → Int32 → Int32 → gz_M → Option (Int32 × gz_M)) (x1 : Int32) (x2 : Int32) (x5 : Int32) (x6 : Int32) (x7 : Int32) (s0 : Int32) (M0 : gz_M) : Option (Int32 × gz_M) := if x2 < (M0.1 0 26) then (f12_changed_246 c164 x1 x2 x5 x6 s0 M0) else (if x1 = 2 then (if x2 = (M0.1 0 26) then (f12_changed_246 c164 x1 x2 x5 x6 s0 M0) else (c164 x1 x2 x5 x6 x7 M0)) else (c164 x1 x2 x5 x6 x7 M0))
theorem b12_changed_223 {x : gz_X} {pf : Nat → Bool} {l : Launch} {r : Int32} {M' : gz_M} (X : gz_Ok x cX12_changed RX12 9 4 gz_cfR pf l) (hc : gx_cells x ≤ (gx_R x).cells ∧ gx_slots x ≤ (gx_R x).slots) (hE : gz_EI x cX12_changed .int r M') {c164 : Int32 → Int32 → Int32 → Int32 → Int32 → gz_M → Option (Int32 × gz_M)} (hc164 : ∀ (x1 : Int32) (x2 : Int32) (x5 : Int32) (x6 : Int32) (x7 : Int32) (M0 : gz_M), c164 x1 x2 x5 x6 x7 M0 = some (r, M') → gz_At x 164 [(0, .ref (gx_ad x 0)), (1, .int x1), (2, .int x2), (5, .int x5), (6, .int x6), (7, .int x7)] [] M0) : ∀ (x1 : Int32) (x2 : Int32) (x5 : Int32) (x6 : Int32) (x7 : Int32) (s0 : Int32) (M0 : gz_M), f12_changed_223 c164 x1 x2 x5 x6 x7 s0 M0 = some (r, M') → gz_At x 223 [(0, .ref (gx_ad x 0)), (1, .int x1), (2, .int x2), (5, .int x5), (6, .int x6), (7, .int x7)] [.int s0] M0 := by
  intro x1 x2 x5 x6 x7 s0 M0  hf
  rw [f12_changed_223] at hf
  refine gr_istore [(8, .int s0), (0, .ref (gx_ad x 0)), (1, .int x1), (2, .int x2), (5, .int x5), (6, .int x6), (7, .int x7)] X dX12_changed_223 rfl (by decide) rfl ?_
  refine gr_iload_n X dX12_changed_225 3 rfl rfl ?_
  refine gr_aload_n X dX12_changed_226 1 rfl rfl ?_
  refine gf12_26 X wf_RX12_229 dX12_changed_227 ?_
  refine gr_icmp_lt 246 X dX12_changed_230 (by decide) (fun h1 => ?_) (fun h1 => ?_)
  · rw [if_pos h1] at hf
    refine gr_sub (lv' := [(0, .ref (gx_ad x 0)), (1, .int x1), (2, .int x2), (5, .int x5), (6, .int x6), (8, .int s0)]) [1, 2, 3, 4, 5, 0] rfl ?_
    exact b12_changed_246 X hc hE hc164 _ _ _ _ _ _ hf
  · rw [if_neg h1] at hf
    refine gr_iload_n X dX12_changed_233 2 rfl rfl ?_
    refine gr_iconst 2 X dX12_changed_234 (by decide) ?_
    refine gr_icmp_ne 254 X dX12_changed_235 (by decide) (fun h2 => ?_) (fun h2 => ?_)
    · rw [if_pos h2] at hf
      refine gr_iload_n X dX12_changed_238 3 rfl rfl ?_
      refine gr_aload_n X dX12_changed_239 1 rfl rfl ?_
      refine gf12_26 X wf_RX12_229 dX12_changed_240 ?_
      refine gr_icmp_ne 254 X dX12_changed_243 (by decide) (fun h3 => ?_) (fun h3 => ?_)
      · rw [if_pos h3] at hf
        refine gr_sub (lv' := [(0, .ref (gx_ad x 0)), (1, .int x1), (2, .int x2), (5, .int x5), (6, .int x6), (8, .int s0)]) [1, 2, 3, 4, 5, 0] rfl ?_
        exact b12_changed_246 X hc hE hc164 _ _ _ _ _ _ hf
      · rw [if_neg h3] at hf
        refine gr_goto 164 X dX12_changed_254 (by decide) ?_
        refine gr_sub (lv' := [(0, .ref (gx_ad x 0)), (1, .int x1), (2, .int x2), (5, .int x5), (6, .int x6), (7, .int x7)]) [1, 2, 3, 4, 5, 6] rfl ?_
        exact hc164 _ _ _ _ _ _ hf
    · rw [if_neg h2] at hf
      refine gr_goto 164 X dX12_changed_254 (by decide) ?_
      refine gr_sub (lv' := [(0, .ref (gx_ad x 0)), (1, .int x1), (2, .int x2), (5, .int x5), (6, .int x6), (7, .int x7)]) [1, 2, 3, 4, 5, 6] rfl ?_
      exact hc164 _ _ _ _ _ _ hf

def f12_changed_164 : Nat → Int32 → Int32 → Int32 → Int32 → Int32 → gz_M → Option (Int32 × gz_M)
  | 0, _, _, _, _, _, _ => none
  | n + 1, x1, x2, x5, x6, x7, M0 => if x7 = (-1) then (gz_ck (gz_inb 81 106) <| if (M0.1 1 (81 : Int32).toNatClampNeg) ≤ (M0.1 0 26) then (f12_changed_257 x5 x6 x7 M0) else (gz_bd (f12_cutOne 0 M0) fun M4 => gz_lt (x6 + 1) fun v6 => if x1 = 0 then (f12_changed_223 (f12_changed_164 n) x1 x2 x5 v6 x7 (M4.1 0 26) M4) else (if x1 = 1 then (f12_changed_223 (f12_changed_164 n) x1 x2 x5 v6 x7 ((M4.1 0 26) - 1) M4) else (f12_changed_223 (f12_changed_164 n) x1 x2 x5 v6 x7 ((M4.1 0 26) + 1) M4)))) else (f12_changed_257 x5 x6 x7 M0)
theorem b12_changed_164 {x : gz_X} {pf : Nat → Bool} {l : Launch} {r : Int32} {M' : gz_M} (X : gz_Ok x cX12_changed RX12 9 4 gz_cfR pf l) (hc : gx_cells x ≤ (gx_R x).cells ∧ gx_slots x ≤ (gx_R x).slots) (hE : gz_EI x cX12_changed .int r M') : ∀ (n : Nat) (x1 : Int32) (x2 : Int32) (x5 : Int32) (x6 : Int32) (x7 : Int32) (M0 : gz_M), f12_changed_164 n x1 x2 x5 x6 x7 M0 = some (r, M') → gz_At x 164 [(0, .ref (gx_ad x 0)), (1, .int x1), (2, .int x2), (5, .int x5), (6, .int x6), (7, .int x7)] [] M0 := by
  intro n
  induction n with
  | zero =>
    intro x1 x2 x5 x6 x7 M0  hf
    rw [f12_changed_164] at hf
    cases hf
  | succ n ih =>
    intro x1 x2 x5 x6 x7 M0  hf
    rw [f12_changed_164] at hf
    refine gr_iload X dX12_changed_164 5 rfl ?_
    refine gr_iconst (-1) X dX12_changed_166 (by decide) ?_
    refine gr_icmp_ne 257 X dX12_changed_167 (by decide) (fun h1 => ?_) (fun h1 => ?_)
    · rw [if_pos h1] at hf
      refine gr_aload_n X dX12_changed_170 0 rfl rfl ?_
      refine gf12_26 X wf_RX12_229 dX12_changed_171 ?_
      refine gr_aload_n X dX12_changed_174 0 rfl rfl ?_
      refine gf12_0 X wf_RX12_9 dX12_changed_175 ?_
      refine gr_bipush 81 X dX12_changed_178 (by decide) ?_
      obtain ⟨h2, hf⟩ := gz_cke hf
      refine gr_iaload X gk_R1 (gz_inp h2) dX12_changed_180 ?_
      refine gr_icmp_ge 257 X dX12_changed_181 (by decide) (fun h3 => ?_) (fun h3 => ?_)
      · rw [if_pos h3] at hf
        refine gr_sub (lv' := [(0, .ref (gx_ad x 0)), (5, .int x5), (6, .int x6), (7, .int x7)]) [0, 3, 4, 5] rfl ?_
        exact b12_changed_257 X hc hE _ _ _ _ hf
      · rw [if_neg h3] at hf
        refine gr_aload_n X dX12_changed_184 0 rfl rfl ?_
        refine gr_iconst 0 X dX12_changed_185 (by decide) ?_
        obtain ⟨M4, q5, hf⟩ := gz_bde hf
        refine gr_callV (asF := fun ad => [.ref (ad 0), .int 0]) [.int 0] X (c12_cutOne q5) rfl wm_RX12_270 rfl (X.kd gk_R0).1 ((X.kd gk_R0).2 _ _ _ _) rfl (by decide) (by decide) rfl (Nat.le_of_ble_eq_true rfl) hc dX12_changed_186 ?_
        obtain ⟨v6, ev6, hf⟩ := gz_lte hf
        refine gr_iinc 1 [(6, .int v6), (0, .ref (gx_ad x 0)), (1, .int x1), (2, .int x2), (5, .int x5), (7, .int x7)] X dX12_changed_189 4 rfl (by decide) ev6 (by decide) rfl ?_
        refine gr_iload_n X dX12_changed_192 2 rfl rfl ?_
        refine gr_if_ne 203 X dX12_changed_193 (by decide) (fun h7 => ?_) (fun h7 => ?_)
        · rw [if_pos h7] at hf
          refine gr_aload_n X dX12_changed_196 1 rfl rfl ?_
          refine gf12_26 X wf_RX12_229 dX12_changed_197 ?_
          refine gr_goto 223 X dX12_changed_200 (by decide) ?_
          refine gr_sub (lv' := [(0, .ref (gx_ad x 0)), (1, .int x1), (2, .int x2), (5, .int x5), (6, .int v6), (7, .int x7)]) [1, 2, 3, 4, 0, 5] rfl ?_
          exact b12_changed_223 X hc hE ih _ _ _ _ _ _ _ hf
        · rw [if_neg h7] at hf
          refine gr_iload_n X dX12_changed_203 2 rfl rfl ?_
          refine gr_iconst 1 X dX12_changed_204 (by decide) ?_
          refine gr_icmp_ne 217 X dX12_changed_205 (by decide) (fun h8 => ?_) (fun h8 => ?_)
          · rw [if_pos h8] at hf
            refine gr_aload_n X dX12_changed_208 1 rfl rfl ?_
            refine gf12_26 X wf_RX12_229 dX12_changed_209 ?_
            refine gr_iconst 1 X dX12_changed_212 (by decide) ?_
            refine gr_isub X dX12_changed_213 ?_
            refine gr_goto 223 X dX12_changed_214 (by decide) ?_
            refine gr_sub (lv' := [(0, .ref (gx_ad x 0)), (1, .int x1), (2, .int x2), (5, .int x5), (6, .int v6), (7, .int x7)]) [1, 2, 3, 4, 0, 5] rfl ?_
            exact b12_changed_223 X hc hE ih _ _ _ _ _ _ _ hf
          · rw [if_neg h8] at hf
            refine gr_aload_n X dX12_changed_217 1 rfl rfl ?_
            refine gf12_26 X wf_RX12_229 dX12_changed_218 ?_
            refine gr_iconst 1 X dX12_changed_221 (by decide) ?_
            refine gr_iadd X dX12_changed_222 ?_
            refine gr_sub (lv' := [(0, .ref (gx_ad x 0)), (1, .int x1), (2, .int x2), (5, .int x5), (6, .int v6), (7, .int x7)]) [1, 2, 3, 4, 0, 5] rfl ?_
            exact b12_changed_223 X hc hE ih _ _ _ _ _ _ _ hf
    · rw [if_neg h1] at hf
      refine gr_sub (lv' := [(0, .ref (gx_ad x 0)), (5, .int x5), (6, .int x6), (7, .int x7)]) [0, 3, 4, 5] rfl ?_
      exact b12_changed_257 X hc hE _ _ _ _ hf

def f12_changed_123 : Nat → Int32 → Int32 → Int32 → Int32 → Int32 → gz_M → Option (Int32 × gz_M)
  | 0, _, _, _, _, _, _ => none
  | n + 1, x1, x2, x5, x6, x7, M0 => if (M0.1 0 28) ≤ x7 then (f12_changed_164 gz_FU x1 x2 x5 0 (-1) M0) else (gz_ck (gz_inb ((x6 + 7) + x7) 300) <| gz_ck (gz_inb x7 5) <| gz_lt (gz_w M0 16 x7.toNatClampNeg (M0.1 23 ((x6 + 7) + x7).toNatClampNeg)) fun M4 => gz_lt (x7 + 1) fun v5 => f12_changed_123 n x1 x2 x5 x6 v5 M4)
theorem b12_changed_123 {x : gz_X} {pf : Nat → Bool} {l : Launch} {r : Int32} {M' : gz_M} (X : gz_Ok x cX12_changed RX12 9 4 gz_cfR pf l) (hc : gx_cells x ≤ (gx_R x).cells ∧ gx_slots x ≤ (gx_R x).slots) (hE : gz_EI x cX12_changed .int r M') : ∀ (n : Nat) (x1 : Int32) (x2 : Int32) (x5 : Int32) (x6 : Int32) (x7 : Int32) (M0 : gz_M), f12_changed_123 n x1 x2 x5 x6 x7 M0 = some (r, M') → gz_At x 123 [(0, .ref (gx_ad x 0)), (1, .int x1), (2, .int x2), (5, .int x5), (6, .int x6), (7, .int x7)] [] M0 := by
  intro n
  induction n with
  | zero =>
    intro x1 x2 x5 x6 x7 M0  hf
    rw [f12_changed_123] at hf
    cases hf
  | succ n ih =>
    intro x1 x2 x5 x6 x7 M0  hf
    rw [f12_changed_123] at hf
    refine gr_iload X dX12_changed_123 5 rfl ?_
    refine gr_aload_n X dX12_changed_125 0 rfl rfl ?_
    refine gf12_28 X wf_RX12_232 dX12_changed_126 ?_
    refine gr_icmp_ge 158 X dX12_changed_129 (by decide) (fun h1 => ?_) (fun h1 => ?_)
    · rw [if_pos h1] at hf
      refine gr_iconst 0 X dX12_changed_158 (by decide) ?_
      refine gr_istore [(6, .int 0), (0, .ref (gx_ad x 0)), (1, .int x1), (2, .int x2), (5, .int x5), (7, .int x7)] X dX12_changed_159 rfl (by decide) rfl ?_
      refine gr_iconst (-1) X dX12_changed_161 (by decide) ?_
      refine gr_istore [(7, .int (-1)), (6, .int 0), (0, .ref (gx_ad x 0)), (1, .int x1), (2, .int x2), (5, .int x5)] X dX12_changed_162 rfl (by decide) rfl ?_
      refine gr_sub (lv' := [(0, .ref (gx_ad x 0)), (1, .int x1), (2, .int x2), (5, .int x5), (6, .int 0), (7, .int (-1))]) [2, 3, 4, 5, 1, 0] rfl ?_
      exact b12_changed_164 X hc hE _ _ _ _ _ _ _ hf
    · rw [if_neg h1] at hf
      refine gr_aload_n X dX12_changed_132 0 rfl rfl ?_
      refine gf12_27 X wf_RX12_58 dX12_changed_133 ?_
      refine gr_iload X dX12_changed_136 5 rfl ?_
      refine gr_aload_n X dX12_changed_138 0 rfl rfl ?_
      refine gf12_38 X wf_RX12_80 dX12_changed_139 ?_
      refine gr_iload X dX12_changed_142 4 rfl ?_
      refine gr_bipush 7 X dX12_changed_144 (by decide) ?_
      refine gr_iadd X dX12_changed_146 ?_
      refine gr_iload X dX12_changed_147 5 rfl ?_
      refine gr_iadd X dX12_changed_149 ?_
      obtain ⟨h2, hf⟩ := gz_cke hf
      refine gr_iaload X gk_R23 (gz_inp h2) dX12_changed_150 ?_
      obtain ⟨h3, hf⟩ := gz_cke hf
      obtain ⟨M4, eM4, hf⟩ := gz_lte hf
      refine gr_iastore X gk_R16 (gz_inp h3) eM4 dX12_changed_151 ?_
      obtain ⟨v5, ev5, hf⟩ := gz_lte hf
      refine gr_iinc 1 [(7, .int v5), (0, .ref (gx_ad x 0)), (1, .int x1), (2, .int x2), (5, .int x5), (6, .int x6)] X dX12_changed_152 5 rfl (by decide) ev5 (by decide) rfl ?_
      refine gr_goto 123 X dX12_changed_155 (by decide) ?_
      refine gr_sub (lv' := [(0, .ref (gx_ad x 0)), (1, .int x1), (2, .int x2), (5, .int x5), (6, .int x6), (7, .int v5)]) [1, 2, 3, 4, 5, 0] rfl ?_
      exact ih _ _ _ _ _ _ hf

def f12_changed_76 (x1 : Int32) (x2 : Int32) (x5 : Int32) (M0 : gz_M) : Option (Int32 × gz_M) := gz_bd (f12_atFirst M0) fun M1 => if x5 ≤ 0 then (f12_changed_164 gz_FU x1 x2 x5 0 (-1) M1) else (gz_lt (12 * (x5 - 1)) fun v4 => gz_ck (gz_inb (v4 + 2) 300) <| gz_lt (gz_w M1 0 26 (M1.1 23 (v4 + 2).toNatClampNeg)) fun M6 => gz_ck (gz_inb (v4 + 5) 300) <| gz_lt (gz_w M6 0 28 (M6.1 23 (v4 + 5).toNatClampNeg)) fun M8 => f12_changed_123 gz_FU x1 x2 x5 v4 0 M8)
theorem b12_changed_76 {x : gz_X} {pf : Nat → Bool} {l : Launch} {r : Int32} {M' : gz_M} (X : gz_Ok x cX12_changed RX12 9 4 gz_cfR pf l) (hc : gx_cells x ≤ (gx_R x).cells ∧ gx_slots x ≤ (gx_R x).slots) (hE : gz_EI x cX12_changed .int r M') : ∀ (x1 : Int32) (x2 : Int32) (x5 : Int32) (M0 : gz_M), f12_changed_76 x1 x2 x5 M0 = some (r, M') → gz_At x 76 [(0, .ref (gx_ad x 0)), (1, .int x1), (2, .int x2), (5, .int x5)] [] M0 := by
  intro x1 x2 x5 M0  hf
  rw [f12_changed_76] at hf
  refine gr_aload_n X dX12_changed_76 0 rfl rfl ?_
  obtain ⟨M1, q2, hf⟩ := gz_bde hf
  refine gr_callV (asF := fun ad => [.ref (ad 0)]) [] X (c12_atFirst q2) rfl wm_RX12_264 rfl (X.kd gk_R0).1 ((X.kd gk_R0).2 _ _ _ _) rfl (by decide) (by decide) rfl (Nat.le_of_ble_eq_true rfl) hc dX12_changed_77 ?_
  refine gr_iload X dX12_changed_80 3 rfl ?_
  refine gr_if_le 158 X dX12_changed_82 (by decide) (fun h3 => ?_) (fun h3 => ?_)
  · rw [if_pos h3] at hf
    refine gr_iconst 0 X dX12_changed_158 (by decide) ?_
    refine gr_istore [(6, .int 0), (0, .ref (gx_ad x 0)), (1, .int x1), (2, .int x2), (5, .int x5)] X dX12_changed_159 rfl (by decide) rfl ?_
    refine gr_iconst (-1) X dX12_changed_161 (by decide) ?_
    refine gr_istore [(7, .int (-1)), (6, .int 0), (0, .ref (gx_ad x 0)), (1, .int x1), (2, .int x2), (5, .int x5)] X dX12_changed_162 rfl (by decide) rfl ?_
    refine gr_sub (lv' := [(0, .ref (gx_ad x 0)), (1, .int x1), (2, .int x2), (5, .int x5), (6, .int 0), (7, .int (-1))]) [2, 3, 4, 5, 1, 0] rfl ?_
    exact b12_changed_164 X hc hE _ _ _ _ _ _ _ hf
  · rw [if_neg h3] at hf
    refine gr_bipush 12 X dX12_changed_85 (by decide) ?_
    refine gr_iload X dX12_changed_87 3 rfl ?_
    refine gr_iconst 1 X dX12_changed_89 (by decide) ?_
    refine gr_isub X dX12_changed_90 ?_
    refine gr_imul X dX12_changed_91 ?_
    obtain ⟨v4, ev4, hf⟩ := gz_lte hf
    refine gr_istore [(6, .int v4), (0, .ref (gx_ad x 0)), (1, .int x1), (2, .int x2), (5, .int x5)] X dX12_changed_92 ev4 (by decide) rfl ?_
    refine gr_aload_n X dX12_changed_94 1 rfl rfl ?_
    refine gr_aload_n X dX12_changed_95 1 rfl rfl ?_
    refine gf12_38 X wf_RX12_80 dX12_changed_96 ?_
    refine gr_iload X dX12_changed_99 0 rfl ?_
    refine gr_iconst 2 X dX12_changed_101 (by decide) ?_
    refine gr_iadd X dX12_changed_102 ?_
    obtain ⟨h5, hf⟩ := gz_cke hf
    refine gr_iaload X gk_R23 (gz_inp h5) dX12_changed_103 ?_
    obtain ⟨M6, eM6, hf⟩ := gz_lte hf
    refine gp12_26 X wf_RX12_229 eM6 dX12_changed_104 ?_
    refine gr_aload_n X dX12_changed_107 1 rfl rfl ?_
    refine gr_aload_n X dX12_changed_108 1 rfl rfl ?_
    refine gf12_38 X wf_RX12_80 dX12_changed_109 ?_
    refine gr_iload X dX12_changed_112 0 rfl ?_
    refine gr_iconst 5 X dX12_changed_114 (by decide) ?_
    refine gr_iadd X dX12_changed_115 ?_
    obtain ⟨h7, hf⟩ := gz_cke hf
    refine gr_iaload X gk_R23 (gz_inp h7) dX12_changed_116 ?_
    obtain ⟨M8, eM8, hf⟩ := gz_lte hf
    refine gp12_28 X wf_RX12_232 eM8 dX12_changed_117 ?_
    refine gr_iconst 0 X dX12_changed_120 (by decide) ?_
    refine gr_istore [(7, .int 0), (6, .int v4), (0, .ref (gx_ad x 0)), (1, .int x1), (2, .int x2), (5, .int x5)] X dX12_changed_121 rfl (by decide) rfl ?_
    refine gr_sub (lv' := [(0, .ref (gx_ad x 0)), (1, .int x1), (2, .int x2), (5, .int x5), (6, .int v4), (7, .int 0)]) [2, 3, 4, 5, 1, 0] rfl ?_
    exact b12_changed_123 X hc hE _ _ _ _ _ _ _ hf

def f12_changed_45 : Nat → Int32 → Int32 → Int32 → gz_M → Option (Int32 × gz_M)
  | 0, _, _, _, _ => none
  | n + 1, x1, x2, x5, M0 => if (M0.1 0 39) ≤ x5 then (f12_changed_76 x1 x2 x5 M0) else (gz_ck (gz_inb ((12 * x5) + 3) 300) <| if x2 < (M0.1 23 ((12 * x5) + 3).toNatClampNeg) then (f12_changed_76 x1 x2 x5 M0) else (gz_lt (x5 + 1) fun v4 => f12_changed_45 n x1 x2 v4 M0))
theorem b12_changed_45 {x : gz_X} {pf : Nat → Bool} {l : Launch} {r : Int32} {M' : gz_M} (X : gz_Ok x cX12_changed RX12 9 4 gz_cfR pf l) (hc : gx_cells x ≤ (gx_R x).cells ∧ gx_slots x ≤ (gx_R x).slots) (hE : gz_EI x cX12_changed .int r M') : ∀ (n : Nat) (x1 : Int32) (x2 : Int32) (x5 : Int32) (M0 : gz_M), f12_changed_45 n x1 x2 x5 M0 = some (r, M') → gz_At x 45 [(0, .ref (gx_ad x 0)), (1, .int x1), (2, .int x2), (5, .int x5)] [] M0 := by
  intro n
  induction n with
  | zero =>
    intro x1 x2 x5 M0  hf
    rw [f12_changed_45] at hf
    cases hf
  | succ n ih =>
    intro x1 x2 x5 M0  hf
    rw [f12_changed_45] at hf
    refine gr_iload X dX12_changed_45 3 rfl ?_
    refine gr_aload_n X dX12_changed_47 0 rfl rfl ?_
    refine gf12_39 X wf_RX12_287 dX12_changed_48 ?_
    refine gr_icmp_ge 76 X dX12_changed_51 (by decide) (fun h1 => ?_) (fun h1 => ?_)
    · rw [if_pos h1] at hf
      exact b12_changed_76 X hc hE _ _ _ _ hf
    · rw [if_neg h1] at hf
      refine gr_aload_n X dX12_changed_54 0 rfl rfl ?_
      refine gf12_38 X wf_RX12_80 dX12_changed_55 ?_
      refine gr_bipush 12 X dX12_changed_58 (by decide) ?_
      refine gr_iload X dX12_changed_60 3 rfl ?_
      refine gr_imul X dX12_changed_62 ?_
      refine gr_iconst 3 X dX12_changed_63 (by decide) ?_
      refine gr_iadd X dX12_changed_64 ?_
      obtain ⟨h2, hf⟩ := gz_cke hf
      refine gr_iaload X gk_R23 (gz_inp h2) dX12_changed_65 ?_
      refine gr_iload_n X dX12_changed_66 2 rfl rfl ?_
      refine gr_icmp_gt 76 X dX12_changed_67 (by decide) (fun h3 => ?_) (fun h3 => ?_)
      · rw [if_pos h3] at hf
        exact b12_changed_76 X hc hE _ _ _ _ hf
      · rw [if_neg h3] at hf
        obtain ⟨v4, ev4, hf⟩ := gz_lte hf
        refine gr_iinc 1 [(5, .int v4), (0, .ref (gx_ad x 0)), (1, .int x1), (2, .int x2)] X dX12_changed_70 3 rfl (by decide) ev4 (by decide) rfl ?_
        refine gr_goto 45 X dX12_changed_73 (by decide) ?_
        refine gr_sub (lv' := [(0, .ref (gx_ad x 0)), (1, .int x1), (2, .int x2), (5, .int v4)]) [1, 2, 3, 0] rfl ?_
        exact ih _ _ _ _ hf

def f12_changed (a0 : Int32) (a1 : Int32) (a2 : Int32) (M0 : gz_M) : Option (Int32 × gz_M) := gz_lt (gz_w M0 0 5 0) fun M1 => gz_bd2 (f12_refuses a0 a1 a2 M1) fun v2 M3 => if 0 ≤ v2 then (gz_bd (f12_cutAll 0 M3) fun M6 => gz_bd (f12_layOld M6) fun M8 => gz_bd (f12_change M8) fun M10 => gz_bd (f12_doChange a0 a1 a2 M10) fun M12 => f12_changed_45 gz_FU a0 a1 0 M12) else (some (v2, M3))
set_option maxRecDepth 100000 in
theorem c12_changed {pf : Nat → Bool} {l : Launch} {r : Int32} {M0 M' : gz_M} {a0 : Int32} {a1 : Int32} {a2 : Int32} (hf : f12_changed a0 a1 a2 M0 = some (r, M')) : gz_CI l gz_cfR yX12_changed cX12_changed 9 4 .int (fun ad => [.ref (ad 0), .int a0, .int a1, .int a2]) pf M0 r M' := by
  refine gz_ofI (by decide +kernel) (fun _ => Nat.le_of_ble_eq_true rfl) (fun x X hc hE => ?_)
  show gz_At x 0 [(0, .ref (gx_ad x 0)), (1, .int a0), (2, .int a1), (3, .int a2)] [] M0
  unfold f12_changed at hf
  refine gr_aload_n X dX12_changed_0 0 rfl rfl ?_
  refine gr_iconst 0 X dX12_changed_1 (by decide) ?_
  obtain ⟨M1, eM1, hf⟩ := gz_lte hf
  refine gp12_5 X wf_RX12_123 eM1 dX12_changed_2 ?_
  refine gr_aload_n X dX12_changed_5 0 rfl rfl ?_
  refine gr_iload_n X dX12_changed_6 1 rfl rfl ?_
  refine gr_iload_n X dX12_changed_7 2 rfl rfl ?_
  refine gr_iload_n X dX12_changed_8 3 rfl rfl ?_
  obtain ⟨v2, M3, q4, hf⟩ := gz_bd2e hf
  refine gr_callI (asF := fun ad => [.ref (ad 0), .int a0, .int a1, .int a2]) [.int a0, .int a1, .int a2] X (c12_refuses q4) rfl wm_RX12_347 rfl (X.kd gk_R0).1 ((X.kd gk_R0).2 _ _ _ _) rfl (by decide) (by decide) rfl (Nat.le_of_ble_eq_true rfl) hc dX12_changed_9 ?_
  refine gr_istore [(4, .int v2), (0, .ref (gx_ad x 0)), (1, .int a0), (2, .int a1), (3, .int a2)] X dX12_changed_12 rfl (by decide) rfl ?_
  refine gr_iload X dX12_changed_14 0 rfl ?_
  refine gr_if_ge 22 X dX12_changed_16 (by decide) (fun h5 => ?_) (fun h5 => ?_)
  · rw [if_pos h5] at hf
    refine gr_aload_n X dX12_changed_22 1 rfl rfl ?_
    refine gr_iconst 0 X dX12_changed_23 (by decide) ?_
    obtain ⟨M6, q7, hf⟩ := gz_bde hf
    refine gr_callV (asF := fun ad => [.ref (ad 0), .int 0]) [.int 0] X (c12_cutAll q7) rfl wm_RX12_274 rfl (X.kd gk_R0).1 ((X.kd gk_R0).2 _ _ _ _) rfl (by decide) (by decide) rfl (Nat.le_of_ble_eq_true rfl) hc dX12_changed_24 ?_
    refine gr_aload_n X dX12_changed_27 1 rfl rfl ?_
    obtain ⟨M8, q9, hf⟩ := gz_bde hf
    refine gr_callV (asF := fun ad => [.ref (ad 0)]) [] X (c12_layOld q9) rfl wm_RX12_290 rfl (X.kd gk_R0).1 ((X.kd gk_R0).2 _ _ _ _) rfl (by decide) (by decide) rfl (Nat.le_of_ble_eq_true rfl) hc dX12_changed_28 ?_
    refine gr_aload_n X dX12_changed_31 1 rfl rfl ?_
    obtain ⟨M10, q11, hf⟩ := gz_bde hf
    refine gr_callV (asF := fun ad => [.ref (ad 0)]) [] X (c12_change q11) rfl wm_RX12_220 rfl (X.kd gk_R0).1 ((X.kd gk_R0).2 _ _ _ _) rfl (by decide) (by decide) rfl (Nat.le_of_ble_eq_true rfl) hc dX12_changed_32 ?_
    refine gr_aload_n X dX12_changed_35 1 rfl rfl ?_
    refine gr_iload_n X dX12_changed_36 2 rfl rfl ?_
    refine gr_iload_n X dX12_changed_37 3 rfl rfl ?_
    refine gr_iload_n X dX12_changed_38 4 rfl rfl ?_
    obtain ⟨M12, q13, hf⟩ := gz_bde hf
    refine gr_callV (asF := fun ad => [.ref (ad 0), .int a0, .int a1, .int a2]) [.int a0, .int a1, .int a2] X (c12_doChange q13) rfl wm_RX12_350 rfl (X.kd gk_R0).1 ((X.kd gk_R0).2 _ _ _ _) rfl (by decide) (by decide) rfl (Nat.le_of_ble_eq_true rfl) hc dX12_changed_39 ?_
    refine gr_iconst 0 X dX12_changed_42 (by decide) ?_
    refine gr_istore [(5, .int 0), (4, .int v2), (0, .ref (gx_ad x 0)), (1, .int a0), (2, .int a1), (3, .int a2)] X dX12_changed_43 rfl (by decide) rfl ?_
    refine gr_sub (lv' := [(0, .ref (gx_ad x 0)), (1, .int a0), (2, .int a1), (5, .int 0)]) [2, 3, 4, 0] rfl ?_
    exact b12_changed_45 X hc hE _ _ _ _ _ hf
  · rw [if_neg h5] at hf
    refine gr_iload X dX12_changed_19 0 rfl ?_
    exact gz_EIu hE hf rfl dX12_changed_21

def f12_becomes (a0 : Int32) (a1 : Int32) (M0 : gz_M) : Option (Int32 × gz_M) := gz_bd2 (f12_changed 0 a0 a1 M0) fun v1 M2 => some (v1, M2)
set_option maxRecDepth 100000 in
theorem c12_becomes {pf : Nat → Bool} {l : Launch} {r : Int32} {M0 M' : gz_M} {a0 : Int32} {a1 : Int32} (hf : f12_becomes a0 a1 M0 = some (r, M')) : gz_CI l gz_cfR yX12_becomes cX12_becomes 3 5 .int (fun ad => [.ref (ad 0), .int a0, .int a1]) pf M0 r M' := by
  refine gz_ofI (by decide +kernel) (fun _ => Nat.le_of_ble_eq_true rfl) (fun x X hc hE => ?_)
  show gz_At x 0 [(0, .ref (gx_ad x 0)), (1, .int a0), (2, .int a1)] [] M0
  unfold f12_becomes at hf
  refine gr_aload_n X dX12_becomes_0 0 rfl rfl ?_
  refine gr_iconst 0 X dX12_becomes_1 (by decide) ?_
  refine gr_iload_n X dX12_becomes_2 1 rfl rfl ?_
  refine gr_iload_n X dX12_becomes_3 2 rfl rfl ?_
  obtain ⟨v1, M2, q3, hf⟩ := gz_bd2e hf
  refine gr_callI (asF := fun ad => [.ref (ad 0), .int 0, .int a0, .int a1]) [.int 0, .int a0, .int a1] X (c12_changed q3) rfl wm_RX12_356 rfl (X.kd gk_R0).1 ((X.kd gk_R0).2 _ _ _ _) rfl (by decide) (by decide) rfl (Nat.le_of_ble_eq_true rfl) hc dX12_becomes_4 ?_
  exact gz_EIu hE hf rfl dX12_becomes_7

def f12_comes (a0 : Int32) (a1 : Int32) (M0 : gz_M) : Option (Int32 × gz_M) := gz_bd2 (f12_changed 1 a0 a1 M0) fun v1 M2 => some (v1, M2)
set_option maxRecDepth 100000 in
theorem c12_comes {pf : Nat → Bool} {l : Launch} {r : Int32} {M0 M' : gz_M} {a0 : Int32} {a1 : Int32} (hf : f12_comes a0 a1 M0 = some (r, M')) : gz_CI l gz_cfR yX12_comes cX12_comes 3 5 .int (fun ad => [.ref (ad 0), .int a0, .int a1]) pf M0 r M' := by
  refine gz_ofI (by decide +kernel) (fun _ => Nat.le_of_ble_eq_true rfl) (fun x X hc hE => ?_)
  show gz_At x 0 [(0, .ref (gx_ad x 0)), (1, .int a0), (2, .int a1)] [] M0
  unfold f12_comes at hf
  refine gr_aload_n X dX12_comes_0 0 rfl rfl ?_
  refine gr_iconst 1 X dX12_comes_1 (by decide) ?_
  refine gr_iload_n X dX12_comes_2 1 rfl rfl ?_
  refine gr_iload_n X dX12_comes_3 2 rfl rfl ?_
  obtain ⟨v1, M2, q3, hf⟩ := gz_bd2e hf
  refine gr_callI (asF := fun ad => [.ref (ad 0), .int 1, .int a0, .int a1]) [.int 1, .int a0, .int a1] X (c12_changed q3) rfl wm_RX12_356 rfl (X.kd gk_R0).1 ((X.kd gk_R0).2 _ _ _ _) rfl (by decide) (by decide) rfl (Nat.le_of_ble_eq_true rfl) hc dX12_comes_4 ?_
  exact gz_EIu hE hf rfl dX12_comes_7

def f12_goes (a0 : Int32) (M0 : gz_M) : Option (Int32 × gz_M) := gz_bd2 (f12_changed 2 a0 0 M0) fun v1 M2 => some (v1, M2)
set_option maxRecDepth 100000 in
theorem c12_goes {pf : Nat → Bool} {l : Launch} {r : Int32} {M0 M' : gz_M} {a0 : Int32} (hf : f12_goes a0 M0 = some (r, M')) : gz_CI l gz_cfR yX12_goes cX12_goes 2 5 .int (fun ad => [.ref (ad 0), .int a0]) pf M0 r M' := by
  refine gz_ofI (by decide +kernel) (fun _ => Nat.le_of_ble_eq_true rfl) (fun x X hc hE => ?_)
  show gz_At x 0 [(0, .ref (gx_ad x 0)), (1, .int a0)] [] M0
  unfold f12_goes at hf
  refine gr_aload_n X dX12_goes_0 0 rfl rfl ?_
  refine gr_iconst 2 X dX12_goes_1 (by decide) ?_
  refine gr_iload_n X dX12_goes_2 1 rfl rfl ?_
  refine gr_iconst 0 X dX12_goes_3 (by decide) ?_
  obtain ⟨v1, M2, q3, hf⟩ := gz_bd2e hf
  refine gr_callI (asF := fun ad => [.ref (ad 0), .int 2, .int a0, .int 0]) [.int 2, .int a0, .int 0] X (c12_changed q3) rfl wm_RX12_356 rfl (X.kd gk_R0).1 ((X.kd gk_R0).2 _ _ _ _) rfl (by decide) (by decide) rfl (Nat.le_of_ble_eq_true rfl) hc dX12_goes_4 ?_
  exact gz_EIu hE hf rfl dX12_goes_7

def f12_mends_82 (c42 : Int32 → Int32 → Int32 → Int32 → Int32 → gz_M → Option (Int32 × gz_M)) (x1 : Int32) (x2 : Int32) (x5 : Int32) (M0 : gz_M) : Option (Int32 × gz_M) := gz_bd2 (f12_stuckMany M0) fun v1 M2 => gz_lt (x5 + 1) fun v4 => c42 x1 x2 x5 v1 v4 M2
theorem b12_mends_82 {x : gz_X} {pf : Nat → Bool} {l : Launch} {r : Int32} {M' : gz_M} (X : gz_Ok x cX12_mends RX12 6 4 gz_cfR pf l) (hc : gx_cells x ≤ (gx_R x).cells ∧ gx_slots x ≤ (gx_R x).slots) (hE : gz_EI x cX12_mends .int r M') {c42 : Int32 → Int32 → Int32 → Int32 → Int32 → gz_M → Option (Int32 × gz_M)} (hc42 : ∀ (x1 : Int32) (x2 : Int32) (x3 : Int32) (x4 : Int32) (x5 : Int32) (M0 : gz_M), c42 x1 x2 x3 x4 x5 M0 = some (r, M') → gz_At x 42 [(0, .ref (gx_ad x 0)), (1, .int x1), (2, .int x2), (3, .int x3), (4, .int x4), (5, .int x5)] [] M0) : ∀ (x1 : Int32) (x2 : Int32) (x5 : Int32) (M0 : gz_M), f12_mends_82 c42 x1 x2 x5 M0 = some (r, M') → gz_At x 82 [(0, .ref (gx_ad x 0)), (1, .int x1), (2, .int x2), (5, .int x5)] [] M0 := by
  intro x1 x2 x5 M0  hf
  rw [f12_mends_82] at hf
  refine gr_iload X dX12_mends_82 3 rfl ?_
  refine gr_istore_n [(3, .int x5), (0, .ref (gx_ad x 0)), (1, .int x1), (2, .int x2), (5, .int x5)] X dX12_mends_84 rfl rfl (by decide) rfl ?_
  refine gr_aload_n X dX12_mends_85 1 rfl rfl ?_
  obtain ⟨v1, M2, q3, hf⟩ := gz_bd2e hf
  refine gr_callI (asF := fun ad => [.ref (ad 0)]) [] X (c12_stuckMany q3) rfl wm_RX12_284 rfl (X.kd gk_R0).1 ((X.kd gk_R0).2 _ _ _ _) rfl (by decide) (by decide) rfl (Nat.le_of_ble_eq_true rfl) hc dX12_mends_86 ?_
  refine gr_istore [(4, .int v1), (3, .int x5), (0, .ref (gx_ad x 0)), (1, .int x1), (2, .int x2), (5, .int x5)] X dX12_mends_89 rfl (by decide) rfl ?_
  obtain ⟨v4, ev4, hf⟩ := gz_lte hf
  refine gr_iinc 1 [(5, .int v4), (4, .int v1), (3, .int x5), (0, .ref (gx_ad x 0)), (1, .int x1), (2, .int x2)] X dX12_mends_91 5 rfl (by decide) ev4 (by decide) rfl ?_
  refine gr_goto 42 X dX12_mends_94 (by decide) ?_
  refine gr_sub (lv' := [(0, .ref (gx_ad x 0)), (1, .int x1), (2, .int x2), (3, .int x5), (4, .int v1), (5, .int v4)]) [3, 4, 5, 2, 1, 0] rfl ?_
  exact hc42 _ _ _ _ _ _ hf

def f12_mends_42 : Nat → Int32 → Int32 → Int32 → Int32 → Int32 → gz_M → Option (Int32 × gz_M)
  | 0, _, _, _, _, _, _ => none
  | n + 1, x1, x2, x3, x4, x5, M0 => if 8 ≤ x5 then (gz_ck (gz_inb (82 + x1) 106) <| gz_lt (gz_w M0 1 (82 + x1).toNatClampNeg x2) fun M3 => gz_lt (gz_w M3 0 4 0) fun M4 => gz_bd (f12_tell (x4.toInt64) M4) fun M5 => some (x3, M5)) else (gz_ck (gz_inb (82 + x1) 106) <| gz_lt (gz_w M0 1 (82 + x1).toNatClampNeg x5) fun M8 => gz_bd (f12_cutAll 0 M8) fun M9 => if x3 = (-1) then (f12_mends_82 (f12_mends_42 n) x1 x2 x5 M9) else (gz_bd2 (f12_stuckMany M9) fun v12 M13 => if v12 < x4 then (f12_mends_82 (f12_mends_42 n) x1 x2 x5 M13) else (gz_lt (x5 + 1) fun v16 => f12_mends_42 n x1 x2 x3 x4 v16 M13)))
theorem b12_mends_42 {x : gz_X} {pf : Nat → Bool} {l : Launch} {r : Int32} {M' : gz_M} (X : gz_Ok x cX12_mends RX12 6 4 gz_cfR pf l) (hc : gx_cells x ≤ (gx_R x).cells ∧ gx_slots x ≤ (gx_R x).slots) (hE : gz_EI x cX12_mends .int r M') : ∀ (n : Nat) (x1 : Int32) (x2 : Int32) (x3 : Int32) (x4 : Int32) (x5 : Int32) (M0 : gz_M), f12_mends_42 n x1 x2 x3 x4 x5 M0 = some (r, M') → gz_At x 42 [(0, .ref (gx_ad x 0)), (1, .int x1), (2, .int x2), (3, .int x3), (4, .int x4), (5, .int x5)] [] M0 := by
  intro n
  induction n with
  | zero =>
    intro x1 x2 x3 x4 x5 M0  hf
    rw [f12_mends_42] at hf
    cases hf
  | succ n ih =>
    intro x1 x2 x3 x4 x5 M0  hf
    rw [f12_mends_42] at hf
    refine gr_iload X dX12_mends_42 5 rfl ?_
    refine gr_bipush 8 X dX12_mends_44 (by decide) ?_
    refine gr_icmp_ge 97 X dX12_mends_46 (by decide) (fun h1 => ?_) (fun h1 => ?_)
    · rw [if_pos h1] at hf
      refine gr_aload_n X dX12_mends_97 0 rfl rfl ?_
      refine gf12_0 X wf_RX12_9 dX12_mends_98 ?_
      refine gr_bipush 82 X dX12_mends_101 (by decide) ?_
      refine gr_iload_n X dX12_mends_103 1 rfl rfl ?_
      refine gr_iadd X dX12_mends_104 ?_
      refine gr_iload_n X dX12_mends_105 2 rfl rfl ?_
      obtain ⟨h2, hf⟩ := gz_cke hf
      obtain ⟨M3, eM3, hf⟩ := gz_lte hf
      refine gr_iastore X gk_R1 (gz_inp h2) eM3 dX12_mends_106 ?_
      refine gr_aload_n X dX12_mends_107 0 rfl rfl ?_
      refine gr_iconst 0 X dX12_mends_108 (by decide) ?_
      obtain ⟨M4, eM4, hf⟩ := gz_lte hf
      refine gp12_4 X wf_RX12_127 eM4 dX12_mends_109 ?_
      refine gr_aload_n X dX12_mends_112 0 rfl rfl ?_
      refine gr_iload X dX12_mends_113 4 rfl ?_
      refine gr_i2l X dX12_mends_115 ?_
      obtain ⟨M5, q6, hf⟩ := gz_bde hf
      refine gr_callV (asF := fun ad => [.ref (ad 0), .long (x4.toInt64)]) [.long (x4.toInt64)] X (c12_tell q6) rfl wm_RX12_280 rfl (X.kd gk_R0).1 ((X.kd gk_R0).2 _ _ _ _) rfl (by decide) (by decide) rfl (Nat.le_of_ble_eq_true rfl) hc dX12_mends_116 ?_
      refine gr_iload_n X dX12_mends_119 3 rfl rfl ?_
      exact gz_EIu hE hf rfl dX12_mends_120
    · rw [if_neg h1] at hf
      refine gr_aload_n X dX12_mends_49 0 rfl rfl ?_
      refine gf12_0 X wf_RX12_9 dX12_mends_50 ?_
      refine gr_bipush 82 X dX12_mends_53 (by decide) ?_
      refine gr_iload_n X dX12_mends_55 1 rfl rfl ?_
      refine gr_iadd X dX12_mends_56 ?_
      refine gr_iload X dX12_mends_57 5 rfl ?_
      obtain ⟨h7, hf⟩ := gz_cke hf
      obtain ⟨M8, eM8, hf⟩ := gz_lte hf
      refine gr_iastore X gk_R1 (gz_inp h7) eM8 dX12_mends_59 ?_
      refine gr_aload_n X dX12_mends_60 0 rfl rfl ?_
      refine gr_iconst 0 X dX12_mends_61 (by decide) ?_
      obtain ⟨M9, q10, hf⟩ := gz_bde hf
      refine gr_callV (asF := fun ad => [.ref (ad 0), .int 0]) [.int 0] X (c12_cutAll q10) rfl wm_RX12_274 rfl (X.kd gk_R0).1 ((X.kd gk_R0).2 _ _ _ _) rfl (by decide) (by decide) rfl (Nat.le_of_ble_eq_true rfl) hc dX12_mends_62 ?_
      refine gr_iload_n X dX12_mends_65 3 rfl rfl ?_
      refine gr_iconst (-1) X dX12_mends_66 (by decide) ?_
      refine gr_icmp_eq 82 X dX12_mends_67 (by decide) (fun h11 => ?_) (fun h11 => ?_)
      · rw [if_pos h11] at hf
        refine gr_sub (lv' := [(0, .ref (gx_ad x 0)), (1, .int x1), (2, .int x2), (5, .int x5)]) [0, 1, 2, 5] rfl ?_
        exact b12_mends_82 X hc hE ih _ _ _ _ hf
      · rw [if_neg h11] at hf
        refine gr_aload_n X dX12_mends_70 0 rfl rfl ?_
        obtain ⟨v12, M13, q14, hf⟩ := gz_bd2e hf
        refine gr_callI (asF := fun ad => [.ref (ad 0)]) [] X (c12_stuckMany q14) rfl wm_RX12_284 rfl (X.kd gk_R0).1 ((X.kd gk_R0).2 _ _ _ _) rfl (by decide) (by decide) rfl (Nat.le_of_ble_eq_true rfl) hc dX12_mends_71 ?_
        refine gr_iload X dX12_mends_74 4 rfl ?_
        refine gr_icmp_lt 82 X dX12_mends_76 (by decide) (fun h15 => ?_) (fun h15 => ?_)
        · rw [if_pos h15] at hf
          refine gr_sub (lv' := [(0, .ref (gx_ad x 0)), (1, .int x1), (2, .int x2), (5, .int x5)]) [0, 1, 2, 5] rfl ?_
          exact b12_mends_82 X hc hE ih _ _ _ _ hf
        · rw [if_neg h15] at hf
          refine gr_goto 91 X dX12_mends_79 (by decide) ?_
          obtain ⟨v16, ev16, hf⟩ := gz_lte hf
          refine gr_iinc 1 [(5, .int v16), (0, .ref (gx_ad x 0)), (1, .int x1), (2, .int x2), (3, .int x3), (4, .int x4)] X dX12_mends_91 5 rfl (by decide) ev16 (by decide) rfl ?_
          refine gr_goto 42 X dX12_mends_94 (by decide) ?_
          refine gr_sub (lv' := [(0, .ref (gx_ad x 0)), (1, .int x1), (2, .int x2), (3, .int x3), (4, .int x4), (5, .int v16)]) [1, 2, 3, 4, 5, 0] rfl ?_
          exact ih _ _ _ _ _ _ hf

def f12_mends (a0 : Int32) (M0 : gz_M) : Option (Int32 × gz_M) := gz_lt (gz_w M0 0 5 0) fun M1 => gz_ck (gz_inb 81 106) <| gz_bd2 (f12_in a0 0 ((M1.1 1 (81 : Int32).toNatClampNeg) - 1) M1) fun v3 M4 => if v3 = 0 then (some ((-1), M4)) else (gz_ck (gz_inb (82 + a0) 106) <| gz_lt (M4.1 1 (82 + a0).toNatClampNeg) fun v8 => f12_mends_42 gz_FU a0 v8 (-1) 0 0 M4)
set_option maxRecDepth 100000 in
theorem c12_mends {pf : Nat → Bool} {l : Launch} {r : Int32} {M0 M' : gz_M} {a0 : Int32} (hf : f12_mends a0 M0 = some (r, M')) : gz_CI l gz_cfR yX12_mends cX12_mends 6 4 .int (fun ad => [.ref (ad 0), .int a0]) pf M0 r M' := by
  refine gz_ofI (by decide +kernel) (fun _ => Nat.le_of_ble_eq_true rfl) (fun x X hc hE => ?_)
  show gz_At x 0 [(0, .ref (gx_ad x 0)), (1, .int a0)] [] M0
  unfold f12_mends at hf
  refine gr_aload_n X dX12_mends_0 0 rfl rfl ?_
  refine gr_iconst 0 X dX12_mends_1 (by decide) ?_
  obtain ⟨M1, eM1, hf⟩ := gz_lte hf
  refine gp12_5 X wf_RX12_123 eM1 dX12_mends_2 ?_
  refine gr_iload_n X dX12_mends_5 1 rfl rfl ?_
  refine gr_iconst 0 X dX12_mends_6 (by decide) ?_
  refine gr_aload_n X dX12_mends_7 0 rfl rfl ?_
  refine gf12_0 X wf_RX12_9 dX12_mends_8 ?_
  refine gr_bipush 81 X dX12_mends_11 (by decide) ?_
  obtain ⟨h2, hf⟩ := gz_cke hf
  refine gr_iaload X gk_R1 (gz_inp h2) dX12_mends_13 ?_
  refine gr_iconst 1 X dX12_mends_14 (by decide) ?_
  refine gr_isub X dX12_mends_15 ?_
  obtain ⟨v3, M4, q5, hf⟩ := gz_bd2e hf
  refine gr_callSI (asF := fun _ => [.int a0, .int 0, .int ((M1.1 1 (81 : Int32).toNatClampNeg) - 1)]) [.int a0, .int 0, .int ((M1.1 1 (81 : Int32).toNatClampNeg) - 1)] X (c12_in q5) rfl wm_RX12_133 rfl (by decide) (by decide) rfl (Nat.le_of_ble_eq_true rfl) hc dX12_mends_16 ?_
  refine gr_if_ne 24 X dX12_mends_19 (by decide) (fun h6 => ?_) (fun h6 => ?_)
  · rw [if_pos h6] at hf
    refine gr_iconst (-1) X dX12_mends_22 (by decide) ?_
    exact gz_EIu hE hf rfl dX12_mends_23
  · rw [if_neg h6] at hf
    refine gr_aload_n X dX12_mends_24 0 rfl rfl ?_
    refine gf12_0 X wf_RX12_9 dX12_mends_25 ?_
    refine gr_bipush 82 X dX12_mends_28 (by decide) ?_
    refine gr_iload_n X dX12_mends_30 1 rfl rfl ?_
    refine gr_iadd X dX12_mends_31 ?_
    obtain ⟨h7, hf⟩ := gz_cke hf
    refine gr_iaload X gk_R1 (gz_inp h7) dX12_mends_32 ?_
    obtain ⟨v8, ev8, hf⟩ := gz_lte hf
    refine gr_istore_n [(2, .int v8), (0, .ref (gx_ad x 0)), (1, .int a0)] X dX12_mends_33 ev8 rfl (by decide) rfl ?_
    refine gr_iconst (-1) X dX12_mends_34 (by decide) ?_
    refine gr_istore_n [(3, .int (-1)), (2, .int v8), (0, .ref (gx_ad x 0)), (1, .int a0)] X dX12_mends_35 rfl rfl (by decide) rfl ?_
    refine gr_iconst 0 X dX12_mends_36 (by decide) ?_
    refine gr_istore [(4, .int 0), (3, .int (-1)), (2, .int v8), (0, .ref (gx_ad x 0)), (1, .int a0)] X dX12_mends_37 rfl (by decide) rfl ?_
    refine gr_iconst 0 X dX12_mends_39 (by decide) ?_
    refine gr_istore [(5, .int 0), (4, .int 0), (3, .int (-1)), (2, .int v8), (0, .ref (gx_ad x 0)), (1, .int a0)] X dX12_mends_40 rfl (by decide) rfl ?_
    refine gr_sub (lv' := [(0, .ref (gx_ad x 0)), (1, .int a0), (2, .int v8), (3, .int (-1)), (4, .int 0), (5, .int 0)]) [4, 5, 3, 2, 1, 0] rfl ?_
    exact b12_mends_42 X hc hE _ _ _ _ _ _ _ hf

def f12_readAct_36 (x1 : Int32) (s0 : Int32) (M0 : gz_M) : Option (gz_M) := if s0 = (-1) then (gz_bd (f12_fault (M0.1 0 8) M0) fun M2 => some M2) else (gz_lt (gz_w M0 0 8 ((M0.1 0 8) + 1)) fun M4 => gz_ck (gz_inb x1 240) <| gz_lt (gz_w M4 35 x1.toNatClampNeg s0) fun M6 => gz_bd2 (f12_twoDigits M6) fun v7 M8 => gz_ck (gz_inb (x1 + 1) 240) <| gz_lt (gz_w M8 35 (x1 + 1).toNatClampNeg v7) fun M11 => if s0 = 2 then (gz_ck (gz_inb (x1 + 2) 240) <| gz_lt (gz_w M11 35 (x1 + 2).toNatClampNeg 0) fun M14 => some M14) else (gz_bd2 (f12_oneOf 97 8 M11) fun v15 M16 => gz_ck (gz_inb (x1 + 2) 240) <| gz_lt (gz_w M16 35 (x1 + 2).toNatClampNeg v15) fun M19 => some M19))
theorem b12_readAct_36 {x : gz_X} {pf : Nat → Bool} {l : Launch} {M' : gz_M} (X : gz_Ok x cX12_readAct RX12 4 5 gz_cfR pf l) (hc : gx_cells x ≤ (gx_R x).cells ∧ gx_slots x ≤ (gx_R x).slots) (hE : gz_EV x cX12_readAct M') : ∀ (x1 : Int32) (s0 : Int32) (M0 : gz_M), f12_readAct_36 x1 s0 M0 = some M' → gz_At x 36 [(0, .ref (gx_ad x 0)), (1, .int x1)] [.int s0] M0 := by
  intro x1 s0 M0  hf
  rw [f12_readAct_36] at hf
  refine gr_istore_n [(3, .int s0), (0, .ref (gx_ad x 0)), (1, .int x1)] X dX12_readAct_36 rfl rfl (by decide) rfl ?_
  refine gr_iload_n X dX12_readAct_37 0 rfl rfl ?_
  refine gr_iconst (-1) X dX12_readAct_38 (by decide) ?_
  refine gr_icmp_ne 51 X dX12_readAct_39 (by decide) (fun h1 => ?_) (fun h1 => ?_)
  · rw [if_pos h1] at hf
    refine gr_aload_n X dX12_readAct_42 1 rfl rfl ?_
    refine gr_aload_n X dX12_readAct_43 1 rfl rfl ?_
    refine gf12_8 X wf_RX12_140 dX12_readAct_44 ?_
    obtain ⟨M2, q3, hf⟩ := gz_bde hf
    refine gr_callV (asF := fun ad => [.ref (ad 0), .int (M0.1 0 8)]) [.int (M0.1 0 8)] X (c12_fault q3) rfl wm_RX12_158 rfl (X.kd gk_R0).1 ((X.kd gk_R0).2 _ _ _ _) rfl (by decide) (by decide) rfl (Nat.le_of_ble_eq_true rfl) hc dX12_readAct_47 ?_
    exact gz_EVu hE hf dX12_readAct_50
  · rw [if_neg h1] at hf
    refine gr_aload_n X dX12_readAct_51 1 rfl rfl ?_
    refine gr_dup X dX12_readAct_52 rfl ?_
    refine gf12_8 X wf_RX12_140 dX12_readAct_53 ?_
    refine gr_iconst 1 X dX12_readAct_56 (by decide) ?_
    refine gr_iadd X dX12_readAct_57 ?_
    obtain ⟨M4, eM4, hf⟩ := gz_lte hf
    refine gp12_8 X wf_RX12_140 eM4 dX12_readAct_58 ?_
    refine gr_aload_n X dX12_readAct_61 1 rfl rfl ?_
    refine gf12_53 X wf_RX12_116 dX12_readAct_62 ?_
    refine gr_iload_n X dX12_readAct_65 2 rfl rfl ?_
    refine gr_iload_n X dX12_readAct_66 0 rfl rfl ?_
    obtain ⟨h5, hf⟩ := gz_cke hf
    obtain ⟨M6, eM6, hf⟩ := gz_lte hf
    refine gr_iastore X gk_R35 (gz_inp h5) eM6 dX12_readAct_67 ?_
    refine gr_aload_n X dX12_readAct_68 1 rfl rfl ?_
    refine gf12_53 X wf_RX12_116 dX12_readAct_69 ?_
    refine gr_iload_n X dX12_readAct_72 2 rfl rfl ?_
    refine gr_iconst 1 X dX12_readAct_73 (by decide) ?_
    refine gr_iadd X dX12_readAct_74 ?_
    refine gr_aload_n X dX12_readAct_75 1 rfl rfl ?_
    obtain ⟨v7, M8, q9, hf⟩ := gz_bd2e hf
    refine gr_callI (asF := fun ad => [.ref (ad 0)]) [] X (c12_twoDigits q9) rfl wm_RX12_359 rfl (X.kd gk_R0).1 ((X.kd gk_R0).2 _ _ _ _) rfl (by decide) (by decide) rfl (Nat.le_of_ble_eq_true rfl) hc dX12_readAct_76 ?_
    obtain ⟨h10, hf⟩ := gz_cke hf
    obtain ⟨M11, eM11, hf⟩ := gz_lte hf
    refine gr_iastore X gk_R35 (gz_inp h10) eM11 dX12_readAct_79 ?_
    refine gr_aload_n X dX12_readAct_80 1 rfl rfl ?_
    refine gf12_53 X wf_RX12_116 dX12_readAct_81 ?_
    refine gr_iload_n X dX12_readAct_84 2 rfl rfl ?_
    refine gr_iconst 2 X dX12_readAct_85 (by decide) ?_
    refine gr_iadd X dX12_readAct_86 ?_
    refine gr_iload_n X dX12_readAct_87 0 rfl rfl ?_
    refine gr_iconst 2 X dX12_readAct_88 (by decide) ?_
    refine gr_icmp_ne 96 X dX12_readAct_89 (by decide) (fun h12 => ?_) (fun h12 => ?_)
    · rw [if_pos h12] at hf
      refine gr_iconst 0 X dX12_readAct_92 (by decide) ?_
      refine gr_goto 104 X dX12_readAct_93 (by decide) ?_
      obtain ⟨h13, hf⟩ := gz_cke hf
      obtain ⟨M14, eM14, hf⟩ := gz_lte hf
      refine gr_iastore X gk_R35 (gz_inp h13) eM14 dX12_readAct_104 ?_
      exact gz_EVu hE hf dX12_readAct_105
    · rw [if_neg h12] at hf
      refine gr_aload_n X dX12_readAct_96 1 rfl rfl ?_
      refine gr_bipush 97 X dX12_readAct_97 (by decide) ?_
      refine gr_bipush 8 X dX12_readAct_99 (by decide) ?_
      obtain ⟨v15, M16, q17, hf⟩ := gz_bd2e hf
      refine gr_callI (asF := fun ad => [.ref (ad 0), .int 97, .int 8]) [.int 97, .int 8] X (c12_oneOf q17) rfl wm_RX12_162 rfl (X.kd gk_R0).1 ((X.kd gk_R0).2 _ _ _ _) rfl (by decide) (by decide) rfl (Nat.le_of_ble_eq_true rfl) hc dX12_readAct_101 ?_
      obtain ⟨h18, hf⟩ := gz_cke hf
      obtain ⟨M19, eM19, hf⟩ := gz_lte hf
      refine gr_iastore X gk_R35 (gz_inp h18) eM19 dX12_readAct_104 ?_
      exact gz_EVu hE hf dX12_readAct_105

def f12_readAct (a0 : Int32) (M0 : gz_M) : Option (gz_M) := gz_bd2 (f12_here M0) fun v1 M2 => if v1 = 114 then (f12_readAct_36 a0 0 M2) else (if v1 = 105 then (f12_readAct_36 a0 1 M2) else (if v1 = 100 then (f12_readAct_36 a0 2 M2) else (f12_readAct_36 a0 (-1) M2)))
set_option maxRecDepth 100000 in
theorem c12_readAct {pf : Nat → Bool} {l : Launch} {M0 M' : gz_M} {a0 : Int32} (hf : f12_readAct a0 M0 = some M') : gz_CV l gz_cfR yX12_readAct cX12_readAct 4 5 (fun ad => [.ref (ad 0), .int a0]) pf M0 M' := by
  refine gz_ofV (by decide +kernel) (fun _ => Nat.le_of_ble_eq_true rfl) (fun x X hc hE => ?_)
  show gz_At x 0 [(0, .ref (gx_ad x 0)), (1, .int a0)] [] M0
  unfold f12_readAct at hf
  refine gr_aload_n X dX12_readAct_0 0 rfl rfl ?_
  obtain ⟨v1, M2, q3, hf⟩ := gz_bd2e hf
  refine gr_callI (asF := fun ad => [.ref (ad 0)]) [] X (c12_here q3) rfl wm_RX12_150 rfl (X.kd gk_R0).1 ((X.kd gk_R0).2 _ _ _ _) rfl (by decide) (by decide) rfl (Nat.le_of_ble_eq_true rfl) hc dX12_readAct_1 ?_
  refine gr_istore_n [(2, .int v1), (0, .ref (gx_ad x 0)), (1, .int a0)] X dX12_readAct_4 rfl rfl (by decide) rfl ?_
  refine gr_iload_n X dX12_readAct_5 0 rfl rfl ?_
  refine gr_bipush 114 X dX12_readAct_6 (by decide) ?_
  refine gr_icmp_ne 15 X dX12_readAct_8 (by decide) (fun h4 => ?_) (fun h4 => ?_)
  · rw [if_pos h4] at hf
    refine gr_iconst 0 X dX12_readAct_11 (by decide) ?_
    refine gr_goto 36 X dX12_readAct_12 (by decide) ?_
    refine gr_sub (lv' := [(0, .ref (gx_ad x 0)), (1, .int a0)]) [1, 2] rfl ?_
    exact b12_readAct_36 X hc hE _ _ _ hf
  · rw [if_neg h4] at hf
    refine gr_iload_n X dX12_readAct_15 0 rfl rfl ?_
    refine gr_bipush 105 X dX12_readAct_16 (by decide) ?_
    refine gr_icmp_ne 25 X dX12_readAct_18 (by decide) (fun h5 => ?_) (fun h5 => ?_)
    · rw [if_pos h5] at hf
      refine gr_iconst 1 X dX12_readAct_21 (by decide) ?_
      refine gr_goto 36 X dX12_readAct_22 (by decide) ?_
      refine gr_sub (lv' := [(0, .ref (gx_ad x 0)), (1, .int a0)]) [1, 2] rfl ?_
      exact b12_readAct_36 X hc hE _ _ _ hf
    · rw [if_neg h5] at hf
      refine gr_iload_n X dX12_readAct_25 0 rfl rfl ?_
      refine gr_bipush 100 X dX12_readAct_26 (by decide) ?_
      refine gr_icmp_ne 35 X dX12_readAct_28 (by decide) (fun h6 => ?_) (fun h6 => ?_)
      · rw [if_pos h6] at hf
        refine gr_iconst 2 X dX12_readAct_31 (by decide) ?_
        refine gr_goto 36 X dX12_readAct_32 (by decide) ?_
        refine gr_sub (lv' := [(0, .ref (gx_ad x 0)), (1, .int a0)]) [1, 2] rfl ?_
        exact b12_readAct_36 X hc hE _ _ _ hf
      · rw [if_neg h6] at hf
        refine gr_iconst (-1) X dX12_readAct_35 (by decide) ?_
        refine gr_sub (lv' := [(0, .ref (gx_ad x 0)), (1, .int a0)]) [1, 2] rfl ?_
        exact b12_readAct_36 X hc hE _ _ _ hf

def f12_day_191 (x2 : Int32) (s0 : Int64) (M0 : gz_M) : Option (Int32 × gz_M) := gz_bd (f12_tell s0 M0) fun M1 => gz_bd (f12_tell ((M1.1 0 31).toInt64) M1) fun M3 => some (x2, M3)
theorem b12_day_191 {x : gz_X} {pf : Nat → Bool} {l : Launch} {r : Int32} {M' : gz_M} (X : gz_Ok x cX12_day RX12 3 6 gz_cfR pf l) (hc : gx_cells x ≤ (gx_R x).cells ∧ gx_slots x ≤ (gx_R x).slots) (hE : gz_EI x cX12_day .int r M') : ∀ (x2 : Int32) (s0 : Int64) (M0 : gz_M), f12_day_191 x2 s0 M0 = some (r, M') → gz_At x 191 [(0, .ref (gx_ad x 0)), (2, .int x2)] [.long s0, .ref (gx_ad x 0)] M0 := by
  intro x2 s0 M0  hf
  rw [f12_day_191] at hf
  obtain ⟨M1, q2, hf⟩ := gz_bde hf
  refine gr_callV (asF := fun ad => [.ref (ad 0), .long s0]) [.long s0] X (c12_tell q2) rfl wm_RX12_280 rfl (X.kd gk_R0).1 ((X.kd gk_R0).2 _ _ _ _) rfl (by decide) (by decide) rfl (Nat.le_of_ble_eq_true rfl) hc dX12_day_191 ?_
  refine gr_aload_n X dX12_day_194 0 rfl rfl ?_
  refine gr_aload_n X dX12_day_195 0 rfl rfl ?_
  refine gf12_31 X wf_RX12_238 dX12_day_196 ?_
  refine gr_i2l X dX12_day_199 ?_
  obtain ⟨M3, q4, hf⟩ := gz_bde hf
  refine gr_callV (asF := fun ad => [.ref (ad 0), .long ((M1.1 0 31).toInt64)]) [.long ((M1.1 0 31).toInt64)] X (c12_tell q4) rfl wm_RX12_280 rfl (X.kd gk_R0).1 ((X.kd gk_R0).2 _ _ _ _) rfl (by decide) (by decide) rfl (Nat.le_of_ble_eq_true rfl) hc dX12_day_200 ?_
  refine gr_iload_n X dX12_day_203 1 rfl rfl ?_
  exact gz_EIu hE hf rfl dX12_day_204

def f12_day_170 (x1 : Int32) (x2 : Int32) (M0 : gz_M) : Option (Int32 × gz_M) := gz_bd (f12_cutAll 0 M0) fun M1 => gz_lt (gz_w M1 0 4 0) fun M3 => if x1 ≤ x2 then (f12_day_191 x2 0 M3) else (f12_day_191 x2 1 M3)
theorem b12_day_170 {x : gz_X} {pf : Nat → Bool} {l : Launch} {r : Int32} {M' : gz_M} (X : gz_Ok x cX12_day RX12 3 6 gz_cfR pf l) (hc : gx_cells x ≤ (gx_R x).cells ∧ gx_slots x ≤ (gx_R x).slots) (hE : gz_EI x cX12_day .int r M') : ∀ (x1 : Int32) (x2 : Int32) (M0 : gz_M), f12_day_170 x1 x2 M0 = some (r, M') → gz_At x 170 [(0, .ref (gx_ad x 0)), (1, .int x1), (2, .int x2)] [] M0 := by
  intro x1 x2 M0  hf
  rw [f12_day_170] at hf
  refine gr_aload_n X dX12_day_170 0 rfl rfl ?_
  refine gr_iconst 0 X dX12_day_171 (by decide) ?_
  obtain ⟨M1, q2, hf⟩ := gz_bde hf
  refine gr_callV (asF := fun ad => [.ref (ad 0), .int 0]) [.int 0] X (c12_cutAll q2) rfl wm_RX12_274 rfl (X.kd gk_R0).1 ((X.kd gk_R0).2 _ _ _ _) rfl (by decide) (by decide) rfl (Nat.le_of_ble_eq_true rfl) hc dX12_day_172 ?_
  refine gr_aload_n X dX12_day_175 0 rfl rfl ?_
  refine gr_iconst 0 X dX12_day_176 (by decide) ?_
  obtain ⟨M3, eM3, hf⟩ := gz_lte hf
  refine gp12_4 X wf_RX12_127 eM3 dX12_day_177 ?_
  refine gr_aload_n X dX12_day_180 0 rfl rfl ?_
  refine gr_iload_n X dX12_day_181 2 rfl rfl ?_
  refine gr_iload_n X dX12_day_182 1 rfl rfl ?_
  refine gr_icmp_ge 190 X dX12_day_183 (by decide) (fun h4 => ?_) (fun h4 => ?_)
  · rw [if_pos h4] at hf
    refine gr_lconst 0 X dX12_day_190 rfl ?_
    refine gr_sub (lv' := [(0, .ref (gx_ad x 0)), (2, .int x2)]) [0, 2] rfl ?_
    exact b12_day_191 X hc hE _ _ _ hf
  · rw [if_neg h4] at hf
    refine gr_lconst 1 X dX12_day_186 rfl ?_
    refine gr_goto 191 X dX12_day_187 (by decide) ?_
    refine gr_sub (lv' := [(0, .ref (gx_ad x 0)), (2, .int x2)]) [0, 2] rfl ?_
    exact b12_day_191 X hc hE _ _ _ hf

def f12_day_162 (x1 : Int32) (x2 : Int32) (M0 : gz_M) : Option (Int32 × gz_M) := if x2 ≤ 0 then (f12_day_170 x1 x2 M0) else (gz_bd (f12_note M0) fun M2 => f12_day_170 x1 x2 M2)
theorem b12_day_162 {x : gz_X} {pf : Nat → Bool} {l : Launch} {r : Int32} {M' : gz_M} (X : gz_Ok x cX12_day RX12 3 6 gz_cfR pf l) (hc : gx_cells x ≤ (gx_R x).cells ∧ gx_slots x ≤ (gx_R x).slots) (hE : gz_EI x cX12_day .int r M') : ∀ (x1 : Int32) (x2 : Int32) (M0 : gz_M), f12_day_162 x1 x2 M0 = some (r, M') → gz_At x 162 [(0, .ref (gx_ad x 0)), (1, .int x1), (2, .int x2)] [] M0 := by
  intro x1 x2 M0  hf
  rw [f12_day_162] at hf
  refine gr_iload_n X dX12_day_162 2 rfl rfl ?_
  refine gr_if_le 170 X dX12_day_163 (by decide) (fun h1 => ?_) (fun h1 => ?_)
  · rw [if_pos h1] at hf
    exact b12_day_170 X hc hE _ _ _ hf
  · rw [if_neg h1] at hf
    refine gr_aload_n X dX12_day_166 0 rfl rfl ?_
    obtain ⟨M2, q3, hf⟩ := gz_bde hf
    refine gr_callV (asF := fun ad => [.ref (ad 0)]) [] X (c12_note q3) rfl wm_RX12_335 rfl (X.kd gk_R0).1 ((X.kd gk_R0).2 _ _ _ _) rfl (by decide) (by decide) rfl (Nat.le_of_ble_eq_true rfl) hc dX12_day_167 ?_
    exact b12_day_170 X hc hE _ _ _ hf

def f12_day_84 : Nat → Int32 → Int32 → gz_M → Option (Int32 × gz_M)
  | 0, _, _, _ => none
  | n + 1, x1, x2, M0 => if x1 ≤ x2 then (f12_day_162 x1 x2 M0) else (gz_ck (gz_inb (3 * x2) 240) <| gz_ck (gz_inb ((3 * x2) + 1) 240) <| gz_ck (gz_inb ((3 * x2) + 2) 240) <| gz_bd2 (f12_refuses (M0.1 35 (3 * x2).toNatClampNeg) (M0.1 35 ((3 * x2) + 1).toNatClampNeg) (M0.1 35 ((3 * x2) + 2).toNatClampNeg) M0) fun v5 M6 => if v5 = 0 then (gz_ck (gz_inb (3 * x2) 240) <| gz_ck (gz_inb ((3 * x2) + 1) 240) <| gz_ck (gz_inb ((3 * x2) + 2) 240) <| gz_bd (f12_doChange (M6.1 35 (3 * x2).toNatClampNeg) (M6.1 35 ((3 * x2) + 1).toNatClampNeg) (M6.1 35 ((3 * x2) + 2).toNatClampNeg) M6) fun M12 => gz_lt (x2 + 1) fun v14 => f12_day_84 n x1 v14 M12) else (f12_day_162 x1 x2 M6))
theorem b12_day_84 {x : gz_X} {pf : Nat → Bool} {l : Launch} {r : Int32} {M' : gz_M} (X : gz_Ok x cX12_day RX12 3 6 gz_cfR pf l) (hc : gx_cells x ≤ (gx_R x).cells ∧ gx_slots x ≤ (gx_R x).slots) (hE : gz_EI x cX12_day .int r M') : ∀ (n : Nat) (x1 : Int32) (x2 : Int32) (M0 : gz_M), f12_day_84 n x1 x2 M0 = some (r, M') → gz_At x 84 [(0, .ref (gx_ad x 0)), (1, .int x1), (2, .int x2)] [] M0 := by
  intro n
  induction n with
  | zero =>
    intro x1 x2 M0  hf
    rw [f12_day_84] at hf
    cases hf
  | succ n ih =>
    intro x1 x2 M0  hf
    rw [f12_day_84] at hf
    refine gr_iload_n X dX12_day_84 2 rfl rfl ?_
    refine gr_iload_n X dX12_day_85 1 rfl rfl ?_
    refine gr_icmp_ge 162 X dX12_day_86 (by decide) (fun h1 => ?_) (fun h1 => ?_)
    · rw [if_pos h1] at hf
      exact b12_day_162 X hc hE _ _ _ hf
    · rw [if_neg h1] at hf
      refine gr_aload_n X dX12_day_89 0 rfl rfl ?_
      refine gr_aload_n X dX12_day_90 0 rfl rfl ?_
      refine gf12_53 X wf_RX12_116 dX12_day_91 ?_
      refine gr_iconst 3 X dX12_day_94 (by decide) ?_
      refine gr_iload_n X dX12_day_95 2 rfl rfl ?_
      refine gr_imul X dX12_day_96 ?_
      obtain ⟨h2, hf⟩ := gz_cke hf
      refine gr_iaload X gk_R35 (gz_inp h2) dX12_day_97 ?_
      refine gr_aload_n X dX12_day_98 0 rfl rfl ?_
      refine gf12_53 X wf_RX12_116 dX12_day_99 ?_
      refine gr_iconst 3 X dX12_day_102 (by decide) ?_
      refine gr_iload_n X dX12_day_103 2 rfl rfl ?_
      refine gr_imul X dX12_day_104 ?_
      refine gr_iconst 1 X dX12_day_105 (by decide) ?_
      refine gr_iadd X dX12_day_106 ?_
      obtain ⟨h3, hf⟩ := gz_cke hf
      refine gr_iaload X gk_R35 (gz_inp h3) dX12_day_107 ?_
      refine gr_aload_n X dX12_day_108 0 rfl rfl ?_
      refine gf12_53 X wf_RX12_116 dX12_day_109 ?_
      refine gr_iconst 3 X dX12_day_112 (by decide) ?_
      refine gr_iload_n X dX12_day_113 2 rfl rfl ?_
      refine gr_imul X dX12_day_114 ?_
      refine gr_iconst 2 X dX12_day_115 (by decide) ?_
      refine gr_iadd X dX12_day_116 ?_
      obtain ⟨h4, hf⟩ := gz_cke hf
      refine gr_iaload X gk_R35 (gz_inp h4) dX12_day_117 ?_
      obtain ⟨v5, M6, q7, hf⟩ := gz_bd2e hf
      refine gr_callI (asF := fun ad => [.ref (ad 0), .int (M0.1 35 (3 * x2).toNatClampNeg), .int (M0.1 35 ((3 * x2) + 1).toNatClampNeg), .int (M0.1 35 ((3 * x2) + 2).toNatClampNeg)]) [.int (M0.1 35 (3 * x2).toNatClampNeg), .int (M0.1 35 ((3 * x2) + 1).toNatClampNeg), .int (M0.1 35 ((3 * x2) + 2).toNatClampNeg)] X (c12_refuses q7) rfl wm_RX12_347 rfl (X.kd gk_R0).1 ((X.kd gk_R0).2 _ _ _ _) rfl (by decide) (by decide) rfl (Nat.le_of_ble_eq_true rfl) hc dX12_day_118 ?_
      refine gr_if_ne 162 X dX12_day_121 (by decide) (fun h8 => ?_) (fun h8 => ?_)
      · rw [if_pos h8] at hf
        refine gr_aload_n X dX12_day_124 0 rfl rfl ?_
        refine gr_aload_n X dX12_day_125 0 rfl rfl ?_
        refine gf12_53 X wf_RX12_116 dX12_day_126 ?_
        refine gr_iconst 3 X dX12_day_129 (by decide) ?_
        refine gr_iload_n X dX12_day_130 2 rfl rfl ?_
        refine gr_imul X dX12_day_131 ?_
        obtain ⟨h9, hf⟩ := gz_cke hf
        refine gr_iaload X gk_R35 (gz_inp h9) dX12_day_132 ?_
        refine gr_aload_n X dX12_day_133 0 rfl rfl ?_
        refine gf12_53 X wf_RX12_116 dX12_day_134 ?_
        refine gr_iconst 3 X dX12_day_137 (by decide) ?_
        refine gr_iload_n X dX12_day_138 2 rfl rfl ?_
        refine gr_imul X dX12_day_139 ?_
        refine gr_iconst 1 X dX12_day_140 (by decide) ?_
        refine gr_iadd X dX12_day_141 ?_
        obtain ⟨h10, hf⟩ := gz_cke hf
        refine gr_iaload X gk_R35 (gz_inp h10) dX12_day_142 ?_
        refine gr_aload_n X dX12_day_143 0 rfl rfl ?_
        refine gf12_53 X wf_RX12_116 dX12_day_144 ?_
        refine gr_iconst 3 X dX12_day_147 (by decide) ?_
        refine gr_iload_n X dX12_day_148 2 rfl rfl ?_
        refine gr_imul X dX12_day_149 ?_
        refine gr_iconst 2 X dX12_day_150 (by decide) ?_
        refine gr_iadd X dX12_day_151 ?_
        obtain ⟨h11, hf⟩ := gz_cke hf
        refine gr_iaload X gk_R35 (gz_inp h11) dX12_day_152 ?_
        obtain ⟨M12, q13, hf⟩ := gz_bde hf
        refine gr_callV (asF := fun ad => [.ref (ad 0), .int (M6.1 35 (3 * x2).toNatClampNeg), .int (M6.1 35 ((3 * x2) + 1).toNatClampNeg), .int (M6.1 35 ((3 * x2) + 2).toNatClampNeg)]) [.int (M6.1 35 (3 * x2).toNatClampNeg), .int (M6.1 35 ((3 * x2) + 1).toNatClampNeg), .int (M6.1 35 ((3 * x2) + 2).toNatClampNeg)] X (c12_doChange q13) rfl wm_RX12_350 rfl (X.kd gk_R0).1 ((X.kd gk_R0).2 _ _ _ _) rfl (by decide) (by decide) rfl (Nat.le_of_ble_eq_true rfl) hc dX12_day_153 ?_
        obtain ⟨v14, ev14, hf⟩ := gz_lte hf
        refine gr_iinc 1 [(2, .int v14), (0, .ref (gx_ad x 0)), (1, .int x1)] X dX12_day_156 2 rfl (by decide) ev14 (by decide) rfl ?_
        refine gr_goto 84 X dX12_day_159 (by decide) ?_
        refine gr_sub (lv' := [(0, .ref (gx_ad x 0)), (1, .int x1), (2, .int v14)]) [1, 2, 0] rfl ?_
        exact ih _ _ _ hf
      · rw [if_neg h8] at hf
        exact b12_day_162 X hc hE _ _ _ hf

def f12_day_58 : Nat → Int32 → Int32 → gz_M → Option (Int32 × gz_M)
  | 0, _, _, _ => none
  | n + 1, x1, x2, M0 => if 106 ≤ x2 then (f12_day_84 gz_FU x1 0 M0) else (gz_ck (gz_inb x2 106) <| gz_ck (gz_inb x2 106) <| gz_lt (gz_w M0 34 x2.toNatClampNeg (M0.1 1 x2.toNatClampNeg)) fun M4 => gz_lt (x2 + 1) fun v5 => f12_day_58 n x1 v5 M4)
theorem b12_day_58 {x : gz_X} {pf : Nat → Bool} {l : Launch} {r : Int32} {M' : gz_M} (X : gz_Ok x cX12_day RX12 3 6 gz_cfR pf l) (hc : gx_cells x ≤ (gx_R x).cells ∧ gx_slots x ≤ (gx_R x).slots) (hE : gz_EI x cX12_day .int r M') : ∀ (n : Nat) (x1 : Int32) (x2 : Int32) (M0 : gz_M), f12_day_58 n x1 x2 M0 = some (r, M') → gz_At x 58 [(0, .ref (gx_ad x 0)), (1, .int x1), (2, .int x2)] [] M0 := by
  intro n
  induction n with
  | zero =>
    intro x1 x2 M0  hf
    rw [f12_day_58] at hf
    cases hf
  | succ n ih =>
    intro x1 x2 M0  hf
    rw [f12_day_58] at hf
    refine gr_iload_n X dX12_day_58 2 rfl rfl ?_
    refine gr_bipush 106 X dX12_day_59 (by decide) ?_
    refine gr_icmp_ge 82 X dX12_day_61 (by decide) (fun h1 => ?_) (fun h1 => ?_)
    · rw [if_pos h1] at hf
      refine gr_iconst 0 X dX12_day_82 (by decide) ?_
      refine gr_istore_n [(2, .int 0), (0, .ref (gx_ad x 0)), (1, .int x1)] X dX12_day_83 rfl rfl (by decide) rfl ?_
      refine gr_sub (lv' := [(0, .ref (gx_ad x 0)), (1, .int x1), (2, .int 0)]) [1, 2, 0] rfl ?_
      exact b12_day_84 X hc hE _ _ _ _ hf
    · rw [if_neg h1] at hf
      refine gr_aload_n X dX12_day_64 0 rfl rfl ?_
      refine gf12_52 X wf_RX12_113 dX12_day_65 ?_
      refine gr_iload_n X dX12_day_68 2 rfl rfl ?_
      refine gr_aload_n X dX12_day_69 0 rfl rfl ?_
      refine gf12_0 X wf_RX12_9 dX12_day_70 ?_
      refine gr_iload_n X dX12_day_73 2 rfl rfl ?_
      obtain ⟨h2, hf⟩ := gz_cke hf
      refine gr_iaload X gk_R1 (gz_inp h2) dX12_day_74 ?_
      obtain ⟨h3, hf⟩ := gz_cke hf
      obtain ⟨M4, eM4, hf⟩ := gz_lte hf
      refine gr_iastore X gk_R34 (gz_inp h3) eM4 dX12_day_75 ?_
      obtain ⟨v5, ev5, hf⟩ := gz_lte hf
      refine gr_iinc 1 [(2, .int v5), (0, .ref (gx_ad x 0)), (1, .int x1)] X dX12_day_76 2 rfl (by decide) ev5 (by decide) rfl ?_
      refine gr_goto 58 X dX12_day_79 (by decide) ?_
      refine gr_sub (lv' := [(0, .ref (gx_ad x 0)), (1, .int x1), (2, .int v5)]) [1, 2, 0] rfl ?_
      exact ih _ _ _ hf

def f12_day_42 (x1 : Int32) (M0 : gz_M) : Option (Int32 × gz_M) := gz_bd2 (f12_wasRight M0) fun v1 M2 => if v1 = 0 then (some ((-1) - (M2.1 0 9), M2)) else (f12_day_58 gz_FU x1 0 M2)
theorem b12_day_42 {x : gz_X} {pf : Nat → Bool} {l : Launch} {r : Int32} {M' : gz_M} (X : gz_Ok x cX12_day RX12 3 6 gz_cfR pf l) (hc : gx_cells x ≤ (gx_R x).cells ∧ gx_slots x ≤ (gx_R x).slots) (hE : gz_EI x cX12_day .int r M') : ∀ (x1 : Int32) (M0 : gz_M), f12_day_42 x1 M0 = some (r, M') → gz_At x 42 [(0, .ref (gx_ad x 0)), (1, .int x1)] [] M0 := by
  intro x1 M0  hf
  rw [f12_day_42] at hf
  refine gr_aload_n X dX12_day_42 0 rfl rfl ?_
  obtain ⟨v1, M2, q3, hf⟩ := gz_bd2e hf
  refine gr_callI (asF := fun ad => [.ref (ad 0)]) [] X (c12_wasRight q3) rfl wm_RX12_208 rfl (X.kd gk_R0).1 ((X.kd gk_R0).2 _ _ _ _) rfl (by decide) (by decide) rfl (Nat.le_of_ble_eq_true rfl) hc dX12_day_43 ?_
  refine gr_if_ne 56 X dX12_day_46 (by decide) (fun h4 => ?_) (fun h4 => ?_)
  · rw [if_pos h4] at hf
    refine gr_iconst (-1) X dX12_day_49 (by decide) ?_
    refine gr_aload_n X dX12_day_50 0 rfl rfl ?_
    refine gf12_9 X wf_RX12_143 dX12_day_51 ?_
    refine gr_isub X dX12_day_54 ?_
    exact gz_EIu hE hf rfl dX12_day_55
  · rw [if_neg h4] at hf
    refine gr_iconst 0 X dX12_day_56 (by decide) ?_
    refine gr_istore_n [(2, .int 0), (0, .ref (gx_ad x 0)), (1, .int x1)] X dX12_day_57 rfl rfl (by decide) rfl ?_
    refine gr_sub (lv' := [(0, .ref (gx_ad x 0)), (1, .int x1), (2, .int 0)]) [1, 2, 0] rfl ?_
    exact b12_day_58 X hc hE _ _ _ _ hf

def f12_day_11 : Nat → Int32 → gz_M → Option (Int32 × gz_M)
  | 0, _, _ => none
  | n + 1, x1, M0 => gz_bd2 (f12_fine M0) fun v1 M2 => if v1 = 0 then (f12_day_42 x1 M2) else (if (M2.1 0 7) ≤ (M2.1 0 8) then (f12_day_42 x1 M2) else (gz_bd (f12_readAct (3 * x1) M2) fun M6 => gz_lt (x1 + 1) fun v8 => f12_day_11 n v8 M6))
theorem b12_day_11 {x : gz_X} {pf : Nat → Bool} {l : Launch} {r : Int32} {M' : gz_M} (X : gz_Ok x cX12_day RX12 3 6 gz_cfR pf l) (hc : gx_cells x ≤ (gx_R x).cells ∧ gx_slots x ≤ (gx_R x).slots) (hE : gz_EI x cX12_day .int r M') : ∀ (n : Nat) (x1 : Int32) (M0 : gz_M), f12_day_11 n x1 M0 = some (r, M') → gz_At x 11 [(0, .ref (gx_ad x 0)), (1, .int x1)] [] M0 := by
  intro n
  induction n with
  | zero =>
    intro x1 M0  hf
    rw [f12_day_11] at hf
    cases hf
  | succ n ih =>
    intro x1 M0  hf
    rw [f12_day_11] at hf
    refine gr_aload_n X dX12_day_11 0 rfl rfl ?_
    obtain ⟨v1, M2, q3, hf⟩ := gz_bd2e hf
    refine gr_callI (asF := fun ad => [.ref (ad 0)]) [] X (c12_fine q3) rfl wm_RX12_146 rfl (X.kd gk_R0).1 ((X.kd gk_R0).2 _ _ _ _) rfl (by decide) (by decide) rfl (Nat.le_of_ble_eq_true rfl) hc dX12_day_12 ?_
    refine gr_if_eq 42 X dX12_day_15 (by decide) (fun h4 => ?_) (fun h4 => ?_)
    · rw [if_pos h4] at hf
      exact b12_day_42 X hc hE _ _ hf
    · rw [if_neg h4] at hf
      refine gr_aload_n X dX12_day_18 0 rfl rfl ?_
      refine gf12_8 X wf_RX12_140 dX12_day_19 ?_
      refine gr_aload_n X dX12_day_22 0 rfl rfl ?_
      refine gf12_7 X wf_RX12_137 dX12_day_23 ?_
      refine gr_icmp_ge 42 X dX12_day_26 (by decide) (fun h5 => ?_) (fun h5 => ?_)
      · rw [if_pos h5] at hf
        exact b12_day_42 X hc hE _ _ hf
      · rw [if_neg h5] at hf
        refine gr_aload_n X dX12_day_29 0 rfl rfl ?_
        refine gr_iconst 3 X dX12_day_30 (by decide) ?_
        refine gr_iload_n X dX12_day_31 1 rfl rfl ?_
        refine gr_imul X dX12_day_32 ?_
        obtain ⟨M6, q7, hf⟩ := gz_bde hf
        refine gr_callV (asF := fun ad => [.ref (ad 0), .int (3 * x1)]) [.int (3 * x1)] X (c12_readAct q7) rfl wm_RX12_362 rfl (X.kd gk_R0).1 ((X.kd gk_R0).2 _ _ _ _) rfl (by decide) (by decide) rfl (Nat.le_of_ble_eq_true rfl) hc dX12_day_33 ?_
        obtain ⟨v8, ev8, hf⟩ := gz_lte hf
        refine gr_iinc 1 [(1, .int v8), (0, .ref (gx_ad x 0))] X dX12_day_36 1 rfl (by decide) ev8 (by decide) rfl ?_
        refine gr_goto 11 X dX12_day_39 (by decide) ?_
        refine gr_sub (lv' := [(0, .ref (gx_ad x 0)), (1, .int v8)]) [1, 0] rfl ?_
        exact ih _ _ hf

def f12_day (M0 : gz_M) : Option (Int32 × gz_M) := gz_lt (gz_w M0 0 5 0) fun M1 => gz_bd (f12_begin M1) fun M2 => f12_day_11 gz_FU 0 M2
set_option maxRecDepth 100000 in
theorem c12_day {pf : Nat → Bool} {l : Launch} {r : Int32} {M0 M' : gz_M} (hf : f12_day M0 = some (r, M')) : gz_CI l gz_cfR yX12_day cX12_day 3 6 .int (fun ad => [.ref (ad 0)]) pf M0 r M' := by
  refine gz_ofI (by decide +kernel) (fun _ => Nat.le_of_ble_eq_true rfl) (fun x X hc hE => ?_)
  show gz_At x 0 [(0, .ref (gx_ad x 0))] [] M0
  unfold f12_day at hf
  refine gr_aload_n X dX12_day_0 0 rfl rfl ?_
  refine gr_iconst 0 X dX12_day_1 (by decide) ?_
  obtain ⟨M1, eM1, hf⟩ := gz_lte hf
  refine gp12_5 X wf_RX12_123 eM1 dX12_day_2 ?_
  refine gr_aload_n X dX12_day_5 0 rfl rfl ?_
  obtain ⟨M2, q3, hf⟩ := gz_bde hf
  refine gr_callV (asF := fun ad => [.ref (ad 0)]) [] X (c12_begin q3) rfl wm_RX12_214 rfl (X.kd gk_R0).1 ((X.kd gk_R0).2 _ _ _ _) rfl (by decide) (by decide) rfl (Nat.le_of_ble_eq_true rfl) hc dX12_day_6 ?_
  refine gr_iconst 0 X dX12_day_9 (by decide) ?_
  refine gr_istore_n [(1, .int 0), (0, .ref (gx_ad x 0))] X dX12_day_10 rfl rfl (by decide) rfl ?_
  refine gr_sub (lv' := [(0, .ref (gx_ad x 0)), (1, .int 0)]) [1, 0] rfl ?_
  exact b12_day_11 X hc hE _ _ _ hf

def f12_draw (a0 : Int32) (M0 : gz_M) : Option (Int32 × gz_M) := gz_lt (gz_w M0 0 54 (((M0.1 0 54) * 1103515245) + 12345)) fun M1 => gz_ck (!decide (a0 = 0)) <| some (gz_rem (gz_ushr (M1.1 0 54) 16) a0, M1)
set_option maxRecDepth 100000 in
theorem c12_draw {pf : Nat → Bool} {l : Launch} {r : Int32} {M0 M' : gz_M} {a0 : Int32} (hf : f12_draw a0 M0 = some (r, M')) : gz_CI l gz_cfR yX12_draw cX12_draw 2 1 .int (fun ad => [.ref (ad 0), .int a0]) pf M0 r M' := by
  refine gz_ofI (by decide +kernel) (fun _ => Nat.le_of_ble_eq_true rfl) (fun x X hc hE => ?_)
  show gz_At x 0 [(0, .ref (gx_ad x 0)), (1, .int a0)] [] M0
  unfold f12_draw at hf
  refine gr_aload_n X dX12_draw_0 0 rfl rfl ?_
  refine gr_aload_n X dX12_draw_1 0 rfl rfl ?_
  refine gf12_54 X wf_RX12_365 dX12_draw_2 ?_
  refine gr_ldc_w 1103515245 X dX12_draw_5 wk_RX12_368 ?_
  refine gr_imul X dX12_draw_8 ?_
  refine gr_sipush 12345 X dX12_draw_9 (by decide) ?_
  refine gr_iadd X dX12_draw_12 ?_
  obtain ⟨M1, eM1, hf⟩ := gz_lte hf
  refine gp12_54 X wf_RX12_365 eM1 dX12_draw_13 ?_
  refine gr_aload_n X dX12_draw_16 0 rfl rfl ?_
  refine gf12_54 X wf_RX12_365 dX12_draw_17 ?_
  refine gr_bipush 16 X dX12_draw_20 (by decide) ?_
  refine gr_iushr X dX12_draw_22 ?_
  refine gr_iload_n X dX12_draw_23 1 rfl rfl ?_
  obtain ⟨h2, hf⟩ := gz_cke hf
  refine gr_irem X dX12_draw_24 (gz_nei h2) ?_
  exact gz_EIu hE hf rfl dX12_draw_25

def f12_years_146 : Nat → Int32 → Int32 → Int32 → Int32 → Int32 → gz_M → Option (Int32 × gz_M)
  | 0, _, _, _, _, _, _ => none
  | n + 1, x3, x4, x5, x6, x7, M0 => if 106 ≤ x7 then (gz_lt (gz_w M0 0 4 0) fun M2 => gz_bd (f12_tell (x6.toInt64) M2) fun M3 => gz_bd (f12_tell (x4.toInt64) M3) fun M5 => gz_bd (f12_tell (x3.toInt64) M5) fun M7 => some (x5, M7)) else (gz_ck (gz_inb x7 106) <| gz_ck (gz_inb x7 106) <| gz_lt (gz_w M0 1 x7.toNatClampNeg (M0.1 34 x7.toNatClampNeg)) fun M11 => gz_lt (x7 + 1) fun v12 => f12_years_146 n x3 x4 x5 x6 v12 M11)
theorem b12_years_146 {x : gz_X} {pf : Nat → Bool} {l : Launch} {r : Int32} {M' : gz_M} (X : gz_Ok x cX12_years RX12 8 5 gz_cfR pf l) (hc : gx_cells x ≤ (gx_R x).cells ∧ gx_slots x ≤ (gx_R x).slots) (hE : gz_EI x cX12_years .int r M') : ∀ (n : Nat) (x3 : Int32) (x4 : Int32) (x5 : Int32) (x6 : Int32) (x7 : Int32) (M0 : gz_M), f12_years_146 n x3 x4 x5 x6 x7 M0 = some (r, M') → gz_At x 146 [(0, .ref (gx_ad x 0)), (3, .int x3), (4, .int x4), (5, .int x5), (6, .int x6), (7, .int x7)] [] M0 := by
  intro n
  induction n with
  | zero =>
    intro x3 x4 x5 x6 x7 M0  hf
    rw [f12_years_146] at hf
    cases hf
  | succ n ih =>
    intro x3 x4 x5 x6 x7 M0  hf
    rw [f12_years_146] at hf
    refine gr_iload X dX12_years_146 5 rfl ?_
    refine gr_bipush 106 X dX12_years_148 (by decide) ?_
    refine gr_icmp_ge 173 X dX12_years_150 (by decide) (fun h1 => ?_) (fun h1 => ?_)
    · rw [if_pos h1] at hf
      refine gr_aload_n X dX12_years_173 0 rfl rfl ?_
      refine gr_iconst 0 X dX12_years_174 (by decide) ?_
      obtain ⟨M2, eM2, hf⟩ := gz_lte hf
      refine gp12_4 X wf_RX12_127 eM2 dX12_years_175 ?_
      refine gr_aload_n X dX12_years_178 0 rfl rfl ?_
      refine gr_iload X dX12_years_179 4 rfl ?_
      refine gr_i2l X dX12_years_181 ?_
      obtain ⟨M3, q4, hf⟩ := gz_bde hf
      refine gr_callV (asF := fun ad => [.ref (ad 0), .long (x6.toInt64)]) [.long (x6.toInt64)] X (c12_tell q4) rfl wm_RX12_280 rfl (X.kd gk_R0).1 ((X.kd gk_R0).2 _ _ _ _) rfl (by decide) (by decide) rfl (Nat.le_of_ble_eq_true rfl) hc dX12_years_182 ?_
      refine gr_aload_n X dX12_years_185 0 rfl rfl ?_
      refine gr_iload X dX12_years_186 2 rfl ?_
      refine gr_i2l X dX12_years_188 ?_
      obtain ⟨M5, q6, hf⟩ := gz_bde hf
      refine gr_callV (asF := fun ad => [.ref (ad 0), .long (x4.toInt64)]) [.long (x4.toInt64)] X (c12_tell q6) rfl wm_RX12_280 rfl (X.kd gk_R0).1 ((X.kd gk_R0).2 _ _ _ _) rfl (by decide) (by decide) rfl (Nat.le_of_ble_eq_true rfl) hc dX12_years_189 ?_
      refine gr_aload_n X dX12_years_192 0 rfl rfl ?_
      refine gr_iload_n X dX12_years_193 1 rfl rfl ?_
      refine gr_i2l X dX12_years_194 ?_
      obtain ⟨M7, q8, hf⟩ := gz_bde hf
      refine gr_callV (asF := fun ad => [.ref (ad 0), .long (x3.toInt64)]) [.long (x3.toInt64)] X (c12_tell q8) rfl wm_RX12_280 rfl (X.kd gk_R0).1 ((X.kd gk_R0).2 _ _ _ _) rfl (by decide) (by decide) rfl (Nat.le_of_ble_eq_true rfl) hc dX12_years_195 ?_
      refine gr_iload X dX12_years_198 3 rfl ?_
      exact gz_EIu hE hf rfl dX12_years_200
    · rw [if_neg h1] at hf
      refine gr_aload_n X dX12_years_153 0 rfl rfl ?_
      refine gf12_0 X wf_RX12_9 dX12_years_154 ?_
      refine gr_iload X dX12_years_157 5 rfl ?_
      refine gr_aload_n X dX12_years_159 0 rfl rfl ?_
      refine gf12_52 X wf_RX12_113 dX12_years_160 ?_
      refine gr_iload X dX12_years_163 5 rfl ?_
      obtain ⟨h9, hf⟩ := gz_cke hf
      refine gr_iaload X gk_R34 (gz_inp h9) dX12_years_165 ?_
      obtain ⟨h10, hf⟩ := gz_cke hf
      obtain ⟨M11, eM11, hf⟩ := gz_lte hf
      refine gr_iastore X gk_R1 (gz_inp h10) eM11 dX12_years_166 ?_
      obtain ⟨v12, ev12, hf⟩ := gz_lte hf
      refine gr_iinc 1 [(7, .int v12), (0, .ref (gx_ad x 0)), (3, .int x3), (4, .int x4), (5, .int x5), (6, .int x6)] X dX12_years_167 5 rfl (by decide) ev12 (by decide) rfl ?_
      refine gr_goto 146 X dX12_years_170 (by decide) ?_
      refine gr_sub (lv' := [(0, .ref (gx_ad x 0)), (3, .int x3), (4, .int x4), (5, .int x5), (6, .int x6), (7, .int v12)]) [1, 2, 3, 4, 5, 0] rfl ?_
      exact ih _ _ _ _ _ _ hf

def f12_years_86 (c50 : Int32 → Int32 → gz_M → Option (Int32 × gz_M)) (x2 : Int32) (x3 : Int32) (x4 : Int32) (x5 : Int32) (s0 : Int32) (M0 : gz_M) : Option (Int32 × gz_M) := gz_bd2 (f12_refuses x4 x5 s0 M0) fun v1 M2 => if v1 = 0 then (gz_bd (f12_doChange x4 x5 s0 M2) fun M5 => gz_lt (x3 + 1) fun v7 => c50 x2 v7 M5) else (gz_lt (x3 + 1) fun v8 => c50 x2 v8 M2)
theorem b12_years_86 {x : gz_X} {pf : Nat → Bool} {l : Launch} {r : Int32} {M' : gz_M} (X : gz_Ok x cX12_years RX12 8 5 gz_cfR pf l) (hc : gx_cells x ≤ (gx_R x).cells ∧ gx_slots x ≤ (gx_R x).slots) (hE : gz_EI x cX12_years .int r M') {c50 : Int32 → Int32 → gz_M → Option (Int32 × gz_M)} (hc50 : ∀ (x2 : Int32) (x3 : Int32) (M0 : gz_M), c50 x2 x3 M0 = some (r, M') → gz_At x 50 [(0, .ref (gx_ad x 0)), (2, .int x2), (3, .int x3)] [] M0) : ∀ (x2 : Int32) (x3 : Int32) (x4 : Int32) (x5 : Int32) (s0 : Int32) (M0 : gz_M), f12_years_86 c50 x2 x3 x4 x5 s0 M0 = some (r, M') → gz_At x 86 [(0, .ref (gx_ad x 0)), (2, .int x2), (3, .int x3), (4, .int x4), (5, .int x5)] [.int s0] M0 := by
  intro x2 x3 x4 x5 s0 M0  hf
  rw [f12_years_86] at hf
  refine gr_istore [(6, .int s0), (0, .ref (gx_ad x 0)), (2, .int x2), (3, .int x3), (4, .int x4), (5, .int x5)] X dX12_years_86 rfl (by decide) rfl ?_
  refine gr_aload_n X dX12_years_88 1 rfl rfl ?_
  refine gr_iload X dX12_years_89 4 rfl ?_
  refine gr_iload X dX12_years_91 5 rfl ?_
  refine gr_iload X dX12_years_93 0 rfl ?_
  obtain ⟨v1, M2, q3, hf⟩ := gz_bd2e hf
  refine gr_callI (asF := fun ad => [.ref (ad 0), .int x4, .int x5, .int s0]) [.int x4, .int x5, .int s0] X (c12_refuses q3) rfl wm_RX12_347 rfl (X.kd gk_R0).1 ((X.kd gk_R0).2 _ _ _ _) rfl (by decide) (by decide) rfl (Nat.le_of_ble_eq_true rfl) hc dX12_years_95 ?_
  refine gr_if_ne 111 X dX12_years_98 (by decide) (fun h4 => ?_) (fun h4 => ?_)
  · rw [if_pos h4] at hf
    refine gr_aload_n X dX12_years_101 1 rfl rfl ?_
    refine gr_iload X dX12_years_102 4 rfl ?_
    refine gr_iload X dX12_years_104 5 rfl ?_
    refine gr_iload X dX12_years_106 0 rfl ?_
    obtain ⟨M5, q6, hf⟩ := gz_bde hf
    refine gr_callV (asF := fun ad => [.ref (ad 0), .int x4, .int x5, .int s0]) [.int x4, .int x5, .int s0] X (c12_doChange q6) rfl wm_RX12_350 rfl (X.kd gk_R0).1 ((X.kd gk_R0).2 _ _ _ _) rfl (by decide) (by decide) rfl (Nat.le_of_ble_eq_true rfl) hc dX12_years_108 ?_
    obtain ⟨v7, ev7, hf⟩ := gz_lte hf
    refine gr_iinc 1 [(3, .int v7), (6, .int s0), (0, .ref (gx_ad x 0)), (2, .int x2), (4, .int x4), (5, .int x5)] X dX12_years_111 3 rfl (by decide) ev7 (by decide) rfl ?_
    refine gr_goto 50 X dX12_years_114 (by decide) ?_
    refine gr_sub (lv' := [(0, .ref (gx_ad x 0)), (2, .int x2), (3, .int v7)]) [2, 3, 0] rfl ?_
    exact hc50 _ _ _ hf
  · rw [if_neg h4] at hf
    obtain ⟨v8, ev8, hf⟩ := gz_lte hf
    refine gr_iinc 1 [(3, .int v8), (6, .int s0), (0, .ref (gx_ad x 0)), (2, .int x2), (4, .int x4), (5, .int x5)] X dX12_years_111 3 rfl (by decide) ev8 (by decide) rfl ?_
    refine gr_goto 50 X dX12_years_114 (by decide) ?_
    refine gr_sub (lv' := [(0, .ref (gx_ad x 0)), (2, .int x2), (3, .int v8)]) [2, 3, 0] rfl ?_
    exact hc50 _ _ _ hf

def f12_years_50 : Nat → Int32 → Int32 → gz_M → Option (Int32 × gz_M)
  | 0, _, _, _ => none
  | n + 1, x2, x3, M0 => if x2 ≤ x3 then (gz_bd2 (f12_readWithMemory M0) fun v2 M3 => gz_ck (gz_inb 81 106) <| gz_lt (M3.1 1 (81 : Int32).toNatClampNeg) fun v6 => gz_lt (M3.1 0 31) fun v7 => gz_bd2 (f12_stuckMany M3) fun v8 M9 => f12_years_146 gz_FU v2 v6 v7 v8 0 M9) else (gz_bd2 (f12_draw 3 M0) fun v11 M12 => gz_bd2 (f12_draw 24 M12) fun v14 M15 => if v11 = 2 then (f12_years_86 (f12_years_50 n) x2 x3 v11 v14 0 M15) else (gz_bd2 (f12_draw 8 M15) fun v18 M19 => f12_years_86 (f12_years_50 n) x2 x3 v11 v14 v18 M19))
theorem b12_years_50 {x : gz_X} {pf : Nat → Bool} {l : Launch} {r : Int32} {M' : gz_M} (X : gz_Ok x cX12_years RX12 8 5 gz_cfR pf l) (hc : gx_cells x ≤ (gx_R x).cells ∧ gx_slots x ≤ (gx_R x).slots) (hE : gz_EI x cX12_years .int r M') : ∀ (n : Nat) (x2 : Int32) (x3 : Int32) (M0 : gz_M), f12_years_50 n x2 x3 M0 = some (r, M') → gz_At x 50 [(0, .ref (gx_ad x 0)), (2, .int x2), (3, .int x3)] [] M0 := by
  intro n
  induction n with
  | zero =>
    intro x2 x3 M0  hf
    rw [f12_years_50] at hf
    cases hf
  | succ n ih =>
    intro x2 x3 M0  hf
    rw [f12_years_50] at hf
    refine gr_iload_n X dX12_years_50 2 rfl rfl ?_
    refine gr_iload_n X dX12_years_51 1 rfl rfl ?_
    refine gr_icmp_ge 117 X dX12_years_52 (by decide) (fun h1 => ?_) (fun h1 => ?_)
    · rw [if_pos h1] at hf
      refine gr_aload_n X dX12_years_117 0 rfl rfl ?_
      obtain ⟨v2, M3, q4, hf⟩ := gz_bd2e hf
      refine gr_callI (asF := fun ad => [.ref (ad 0)]) [] X (c12_readWithMemory q4) rfl wm_RX12_300 rfl (X.kd gk_R0).1 ((X.kd gk_R0).2 _ _ _ _) rfl (by decide) (by decide) rfl (Nat.le_of_ble_eq_true rfl) hc dX12_years_118 ?_
      refine gr_istore_n [(3, .int v2), (0, .ref (gx_ad x 0)), (2, .int x2)] X dX12_years_121 rfl rfl (by decide) rfl ?_
      refine gr_aload_n X dX12_years_122 1 rfl rfl ?_
      refine gf12_0 X wf_RX12_9 dX12_years_123 ?_
      refine gr_bipush 81 X dX12_years_126 (by decide) ?_
      obtain ⟨h5, hf⟩ := gz_cke hf
      refine gr_iaload X gk_R1 (gz_inp h5) dX12_years_128 ?_
      obtain ⟨v6, ev6, hf⟩ := gz_lte hf
      refine gr_istore [(4, .int v6), (3, .int v2), (0, .ref (gx_ad x 0)), (2, .int x2)] X dX12_years_129 ev6 (by decide) rfl ?_
      refine gr_aload_n X dX12_years_131 2 rfl rfl ?_
      refine gf12_31 X wf_RX12_238 dX12_years_132 ?_
      obtain ⟨v7, ev7, hf⟩ := gz_lte hf
      refine gr_istore [(5, .int v7), (4, .int v6), (3, .int v2), (0, .ref (gx_ad x 0)), (2, .int x2)] X dX12_years_135 ev7 (by decide) rfl ?_
      refine gr_aload_n X dX12_years_137 3 rfl rfl ?_
      obtain ⟨v8, M9, q10, hf⟩ := gz_bd2e hf
      refine gr_callI (asF := fun ad => [.ref (ad 0)]) [] X (c12_stuckMany q10) rfl wm_RX12_284 rfl (X.kd gk_R0).1 ((X.kd gk_R0).2 _ _ _ _) rfl (by decide) (by decide) rfl (Nat.le_of_ble_eq_true rfl) hc dX12_years_138 ?_
      refine gr_istore [(6, .int v8), (5, .int v7), (4, .int v6), (3, .int v2), (0, .ref (gx_ad x 0)), (2, .int x2)] X dX12_years_141 rfl (by decide) rfl ?_
      refine gr_iconst 0 X dX12_years_143 (by decide) ?_
      refine gr_istore [(7, .int 0), (6, .int v8), (5, .int v7), (4, .int v6), (3, .int v2), (0, .ref (gx_ad x 0)), (2, .int x2)] X dX12_years_144 rfl (by decide) rfl ?_
      refine gr_sub (lv' := [(0, .ref (gx_ad x 0)), (3, .int v2), (4, .int v6), (5, .int v7), (6, .int v8), (7, .int 0)]) [5, 4, 3, 2, 1, 0] rfl ?_
      exact b12_years_146 X hc hE _ _ _ _ _ _ _ hf
    · rw [if_neg h1] at hf
      refine gr_aload_n X dX12_years_55 0 rfl rfl ?_
      refine gr_iconst 3 X dX12_years_56 (by decide) ?_
      obtain ⟨v11, M12, q13, hf⟩ := gz_bd2e hf
      refine gr_callI (asF := fun ad => [.ref (ad 0), .int 3]) [.int 3] X (c12_draw q13) rfl wm_RX12_369 rfl (X.kd gk_R0).1 ((X.kd gk_R0).2 _ _ _ _) rfl (by decide) (by decide) rfl (Nat.le_of_ble_eq_true rfl) hc dX12_years_57 ?_
      refine gr_istore [(4, .int v11), (0, .ref (gx_ad x 0)), (2, .int x2), (3, .int x3)] X dX12_years_60 rfl (by decide) rfl ?_
      refine gr_aload_n X dX12_years_62 1 rfl rfl ?_
      refine gr_bipush 24 X dX12_years_63 (by decide) ?_
      obtain ⟨v14, M15, q16, hf⟩ := gz_bd2e hf
      refine gr_callI (asF := fun ad => [.ref (ad 0), .int 24]) [.int 24] X (c12_draw q16) rfl wm_RX12_369 rfl (X.kd gk_R0).1 ((X.kd gk_R0).2 _ _ _ _) rfl (by decide) (by decide) rfl (Nat.le_of_ble_eq_true rfl) hc dX12_years_65 ?_
      refine gr_istore [(5, .int v14), (4, .int v11), (0, .ref (gx_ad x 0)), (2, .int x2), (3, .int x3)] X dX12_years_68 rfl (by decide) rfl ?_
      refine gr_iload X dX12_years_70 1 rfl ?_
      refine gr_iconst 2 X dX12_years_72 (by decide) ?_
      refine gr_icmp_ne 80 X dX12_years_73 (by decide) (fun h17 => ?_) (fun h17 => ?_)
      · rw [if_pos h17] at hf
        refine gr_iconst 0 X dX12_years_76 (by decide) ?_
        refine gr_goto 86 X dX12_years_77 (by decide) ?_
        refine gr_sub (lv' := [(0, .ref (gx_ad x 0)), (2, .int x2), (3, .int x3), (4, .int v11), (5, .int v14)]) [2, 3, 4, 1, 0] rfl ?_
        exact b12_years_86 X hc hE ih _ _ _ _ _ _ hf
      · rw [if_neg h17] at hf
        refine gr_aload_n X dX12_years_80 2 rfl rfl ?_
        refine gr_bipush 8 X dX12_years_81 (by decide) ?_
        obtain ⟨v18, M19, q20, hf⟩ := gz_bd2e hf
        refine gr_callI (asF := fun ad => [.ref (ad 0), .int 8]) [.int 8] X (c12_draw q20) rfl wm_RX12_369 rfl (X.kd gk_R0).1 ((X.kd gk_R0).2 _ _ _ _) rfl (by decide) (by decide) rfl (Nat.le_of_ble_eq_true rfl) hc dX12_years_83 ?_
        refine gr_sub (lv' := [(0, .ref (gx_ad x 0)), (2, .int x2), (3, .int x3), (4, .int v11), (5, .int v14)]) [2, 3, 4, 1, 0] rfl ?_
        exact b12_years_86 X hc hE ih _ _ _ _ _ _ hf

def f12_years_24 : Nat → Int32 → Int32 → gz_M → Option (Int32 × gz_M)
  | 0, _, _, _ => none
  | n + 1, x2, x3, M0 => if 106 ≤ x3 then (f12_years_50 gz_FU x2 0 M0) else (gz_ck (gz_inb x3 106) <| gz_ck (gz_inb x3 106) <| gz_lt (gz_w M0 34 x3.toNatClampNeg (M0.1 1 x3.toNatClampNeg)) fun M4 => gz_lt (x3 + 1) fun v5 => f12_years_24 n x2 v5 M4)
theorem b12_years_24 {x : gz_X} {pf : Nat → Bool} {l : Launch} {r : Int32} {M' : gz_M} (X : gz_Ok x cX12_years RX12 8 5 gz_cfR pf l) (hc : gx_cells x ≤ (gx_R x).cells ∧ gx_slots x ≤ (gx_R x).slots) (hE : gz_EI x cX12_years .int r M') : ∀ (n : Nat) (x2 : Int32) (x3 : Int32) (M0 : gz_M), f12_years_24 n x2 x3 M0 = some (r, M') → gz_At x 24 [(0, .ref (gx_ad x 0)), (2, .int x2), (3, .int x3)] [] M0 := by
  intro n
  induction n with
  | zero =>
    intro x2 x3 M0  hf
    rw [f12_years_24] at hf
    cases hf
  | succ n ih =>
    intro x2 x3 M0  hf
    rw [f12_years_24] at hf
    refine gr_iload_n X dX12_years_24 2 rfl rfl ?_
    refine gr_bipush 106 X dX12_years_25 (by decide) ?_
    refine gr_icmp_ge 48 X dX12_years_27 (by decide) (fun h1 => ?_) (fun h1 => ?_)
    · rw [if_pos h1] at hf
      refine gr_iconst 0 X dX12_years_48 (by decide) ?_
      refine gr_istore_n [(3, .int 0), (0, .ref (gx_ad x 0)), (2, .int x2)] X dX12_years_49 rfl rfl (by decide) rfl ?_
      refine gr_sub (lv' := [(0, .ref (gx_ad x 0)), (2, .int x2), (3, .int 0)]) [1, 2, 0] rfl ?_
      exact b12_years_50 X hc hE _ _ _ _ hf
    · rw [if_neg h1] at hf
      refine gr_aload_n X dX12_years_30 0 rfl rfl ?_
      refine gf12_52 X wf_RX12_113 dX12_years_31 ?_
      refine gr_iload_n X dX12_years_34 2 rfl rfl ?_
      refine gr_aload_n X dX12_years_35 0 rfl rfl ?_
      refine gf12_0 X wf_RX12_9 dX12_years_36 ?_
      refine gr_iload_n X dX12_years_39 2 rfl rfl ?_
      obtain ⟨h2, hf⟩ := gz_cke hf
      refine gr_iaload X gk_R1 (gz_inp h2) dX12_years_40 ?_
      obtain ⟨h3, hf⟩ := gz_cke hf
      obtain ⟨M4, eM4, hf⟩ := gz_lte hf
      refine gr_iastore X gk_R34 (gz_inp h3) eM4 dX12_years_41 ?_
      obtain ⟨v5, ev5, hf⟩ := gz_lte hf
      refine gr_iinc 1 [(3, .int v5), (0, .ref (gx_ad x 0)), (2, .int x2)] X dX12_years_42 2 rfl (by decide) ev5 (by decide) rfl ?_
      refine gr_goto 24 X dX12_years_45 (by decide) ?_
      refine gr_sub (lv' := [(0, .ref (gx_ad x 0)), (2, .int x2), (3, .int v5)]) [1, 2, 0] rfl ?_
      exact ih _ _ _ hf

def f12_years (a0 : Int32) (a1 : Int32) (M0 : gz_M) : Option (Int32 × gz_M) := gz_lt (gz_w M0 0 5 0) fun M1 => gz_bd2 (f12_in a1 1 20 M1) fun v2 M3 => if v2 = 0 then (some ((-1), M3)) else (gz_lt (gz_w M3 0 54 a0) fun M6 => f12_years_24 gz_FU a1 0 M6)
set_option maxRecDepth 100000 in
theorem c12_years {pf : Nat → Bool} {l : Launch} {r : Int32} {M0 M' : gz_M} {a0 : Int32} {a1 : Int32} (hf : f12_years a0 a1 M0 = some (r, M')) : gz_CI l gz_cfR yX12_years cX12_years 8 5 .int (fun ad => [.ref (ad 0), .int a0, .int a1]) pf M0 r M' := by
  refine gz_ofI (by decide +kernel) (fun _ => Nat.le_of_ble_eq_true rfl) (fun x X hc hE => ?_)
  show gz_At x 0 [(0, .ref (gx_ad x 0)), (1, .int a0), (2, .int a1)] [] M0
  unfold f12_years at hf
  refine gr_aload_n X dX12_years_0 0 rfl rfl ?_
  refine gr_iconst 0 X dX12_years_1 (by decide) ?_
  obtain ⟨M1, eM1, hf⟩ := gz_lte hf
  refine gp12_5 X wf_RX12_123 eM1 dX12_years_2 ?_
  refine gr_iload_n X dX12_years_5 2 rfl rfl ?_
  refine gr_iconst 1 X dX12_years_6 (by decide) ?_
  refine gr_bipush 20 X dX12_years_7 (by decide) ?_
  obtain ⟨v2, M3, q4, hf⟩ := gz_bd2e hf
  refine gr_callSI (asF := fun _ => [.int a1, .int 1, .int 20]) [.int a1, .int 1, .int 20] X (c12_in q4) rfl wm_RX12_133 rfl (by decide) (by decide) rfl (Nat.le_of_ble_eq_true rfl) hc dX12_years_9 ?_
  refine gr_if_ne 17 X dX12_years_12 (by decide) (fun h5 => ?_) (fun h5 => ?_)
  · rw [if_pos h5] at hf
    refine gr_iconst (-1) X dX12_years_15 (by decide) ?_
    exact gz_EIu hE hf rfl dX12_years_16
  · rw [if_neg h5] at hf
    refine gr_aload_n X dX12_years_17 0 rfl rfl ?_
    refine gr_iload_n X dX12_years_18 1 rfl rfl ?_
    obtain ⟨M6, eM6, hf⟩ := gz_lte hf
    refine gp12_54 X wf_RX12_365 eM6 dX12_years_19 ?_
    refine gr_iconst 0 X dX12_years_22 (by decide) ?_
    refine gr_istore_n [(3, .int 0), (0, .ref (gx_ad x 0)), (1, .int a0), (2, .int a1)] X dX12_years_23 rfl rfl (by decide) rfl ?_
    refine gr_sub (lv' := [(0, .ref (gx_ad x 0)), (2, .int a1), (3, .int 0)]) [1, 3, 0] rfl ?_
    exact b12_years_24 X hc hE _ _ _ _ hf

def f12_keep_25 : Nat → Int32 → Int32 → gz_M → Option (Int32 × gz_M)
  | 0, _, _, _ => none
  | n + 1, x1, x2, M0 => if 106 ≤ x2 then (some (1, M0)) else (gz_ck (gz_inb x2 106) <| gz_ck (gz_inb ((106 * x1) + x2) 212) <| gz_lt (gz_w M0 21 ((106 * x1) + x2).toNatClampNeg (M0.1 1 x2.toNatClampNeg)) fun M4 => gz_lt (x2 + 1) fun v5 => f12_keep_25 n x1 v5 M4)
theorem b12_keep_25 {x : gz_X} {pf : Nat → Bool} {l : Launch} {r : Int32} {M' : gz_M} (X : gz_Ok x cX12_keep RX12 3 2 gz_cfR pf l) (hc : gx_cells x ≤ (gx_R x).cells ∧ gx_slots x ≤ (gx_R x).slots) (hE : gz_EI x cX12_keep .boolean r M') : ∀ (n : Nat) (x1 : Int32) (x2 : Int32) (M0 : gz_M), f12_keep_25 n x1 x2 M0 = some (r, M') → gz_At x 25 [(0, .ref (gx_ad x 0)), (1, .int x1), (2, .int x2)] [] M0 := by
  intro n
  induction n with
  | zero =>
    intro x1 x2 M0  hf
    rw [f12_keep_25] at hf
    cases hf
  | succ n ih =>
    intro x1 x2 M0  hf
    rw [f12_keep_25] at hf
    refine gr_iload_n X dX12_keep_25 2 rfl rfl ?_
    refine gr_bipush 106 X dX12_keep_26 (by decide) ?_
    refine gr_icmp_ge 54 X dX12_keep_28 (by decide) (fun h1 => ?_) (fun h1 => ?_)
    · rw [if_pos h1] at hf
      refine gr_iconst 1 X dX12_keep_54 (by decide) ?_
      exact gz_EIu hE hf rfl dX12_keep_55
    · rw [if_neg h1] at hf
      refine gr_aload_n X dX12_keep_31 0 rfl rfl ?_
      refine gf12_36 X wf_RX12_74 dX12_keep_32 ?_
      refine gr_bipush 106 X dX12_keep_35 (by decide) ?_
      refine gr_iload_n X dX12_keep_37 1 rfl rfl ?_
      refine gr_imul X dX12_keep_38 ?_
      refine gr_iload_n X dX12_keep_39 2 rfl rfl ?_
      refine gr_iadd X dX12_keep_40 ?_
      refine gr_aload_n X dX12_keep_41 0 rfl rfl ?_
      refine gf12_0 X wf_RX12_9 dX12_keep_42 ?_
      refine gr_iload_n X dX12_keep_45 2 rfl rfl ?_
      obtain ⟨h2, hf⟩ := gz_cke hf
      refine gr_iaload X gk_R1 (gz_inp h2) dX12_keep_46 ?_
      obtain ⟨h3, hf⟩ := gz_cke hf
      obtain ⟨M4, eM4, hf⟩ := gz_lte hf
      refine gr_iastore X gk_R21 (gz_inp h3) eM4 dX12_keep_47 ?_
      obtain ⟨v5, ev5, hf⟩ := gz_lte hf
      refine gr_iinc 1 [(2, .int v5), (0, .ref (gx_ad x 0)), (1, .int x1)] X dX12_keep_48 2 rfl (by decide) ev5 (by decide) rfl ?_
      refine gr_goto 25 X dX12_keep_51 (by decide) ?_
      refine gr_sub (lv' := [(0, .ref (gx_ad x 0)), (1, .int x1), (2, .int v5)]) [1, 2, 0] rfl ?_
      exact ih _ _ _ hf

def f12_keep (a0 : Int32) (M0 : gz_M) : Option (Int32 × gz_M) := gz_lt (gz_w M0 0 5 0) fun M1 => gz_bd2 (f12_in a0 0 1 M1) fun v2 M3 => if v2 = 0 then (some (0, M3)) else (gz_ck (gz_inb a0 2) <| gz_lt (gz_w M3 22 a0.toNatClampNeg (vp_nar .boolean 1)) fun M7 => f12_keep_25 gz_FU a0 0 M7)
set_option maxRecDepth 100000 in
theorem c12_keep {pf : Nat → Bool} {l : Launch} {r : Int32} {M0 M' : gz_M} {a0 : Int32} (hf : f12_keep a0 M0 = some (r, M')) : gz_CI l gz_cfR yX12_keep cX12_keep 3 2 .boolean (fun ad => [.ref (ad 0), .int a0]) pf M0 r M' := by
  refine gz_ofI (by decide +kernel) (fun _ => Nat.le_of_ble_eq_true rfl) (fun x X hc hE => ?_)
  show gz_At x 0 [(0, .ref (gx_ad x 0)), (1, .int a0)] [] M0
  unfold f12_keep at hf
  refine gr_aload_n X dX12_keep_0 0 rfl rfl ?_
  refine gr_iconst 0 X dX12_keep_1 (by decide) ?_
  obtain ⟨M1, eM1, hf⟩ := gz_lte hf
  refine gp12_5 X wf_RX12_123 eM1 dX12_keep_2 ?_
  refine gr_iload_n X dX12_keep_5 1 rfl rfl ?_
  refine gr_iconst 0 X dX12_keep_6 (by decide) ?_
  refine gr_iconst 1 X dX12_keep_7 (by decide) ?_
  obtain ⟨v2, M3, q4, hf⟩ := gz_bd2e hf
  refine gr_callSI (asF := fun _ => [.int a0, .int 0, .int 1]) [.int a0, .int 0, .int 1] X (c12_in q4) rfl wm_RX12_133 rfl (by decide) (by decide) rfl (Nat.le_of_ble_eq_true rfl) hc dX12_keep_8 ?_
  refine gr_if_ne 16 X dX12_keep_11 (by decide) (fun h5 => ?_) (fun h5 => ?_)
  · rw [if_pos h5] at hf
    refine gr_iconst 0 X dX12_keep_14 (by decide) ?_
    exact gz_EIu hE hf rfl dX12_keep_15
  · rw [if_neg h5] at hf
    refine gr_aload_n X dX12_keep_16 0 rfl rfl ?_
    refine gf12_37 X wf_RX12_77 dX12_keep_17 ?_
    refine gr_iload_n X dX12_keep_20 1 rfl rfl ?_
    refine gr_iconst 1 X dX12_keep_21 (by decide) ?_
    obtain ⟨h6, hf⟩ := gz_cke hf
    obtain ⟨M7, eM7, hf⟩ := gz_lte hf
    refine gr_zastore X gk_R22 (gz_inp h6) eM7 dX12_keep_22 ?_
    refine gr_iconst 0 X dX12_keep_23 (by decide) ?_
    refine gr_istore_n [(2, .int 0), (0, .ref (gx_ad x 0)), (1, .int a0)] X dX12_keep_24 rfl rfl (by decide) rfl ?_
    refine gr_sub (lv' := [(0, .ref (gx_ad x 0)), (1, .int a0), (2, .int 0)]) [1, 2, 0] rfl ?_
    exact b12_keep_25 X hc hE _ _ _ _ hf

def f12_allLetters_4 : Nat → Int32 → Int32 → gz_M → Option (Int32 × gz_M)
  | 0, _, _, _ => none
  | n + 1, x1, x2, M0 => if (M0.1 0 10) ≤ x2 then (some (x1, M0)) else (gz_ck (gz_inb x2 8) <| gz_lt (x1 + (M0.1 6 x2.toNatClampNeg)) fun v3 => gz_lt (x2 + 1) fun v4 => f12_allLetters_4 n v3 v4 M0)
theorem b12_allLetters_4 {x : gz_X} {pf : Nat → Bool} {l : Launch} {r : Int32} {M' : gz_M} (X : gz_Ok x cX12_allLetters RX12 3 1 gz_cfR pf l) (hc : gx_cells x ≤ (gx_R x).cells ∧ gx_slots x ≤ (gx_R x).slots) (hE : gz_EI x cX12_allLetters .int r M') : ∀ (n : Nat) (x1 : Int32) (x2 : Int32) (M0 : gz_M), f12_allLetters_4 n x1 x2 M0 = some (r, M') → gz_At x 4 [(0, .ref (gx_ad x 0)), (1, .int x1), (2, .int x2)] [] M0 := by
  intro n
  induction n with
  | zero =>
    intro x1 x2 M0  hf
    rw [f12_allLetters_4] at hf
    cases hf
  | succ n ih =>
    intro x1 x2 M0  hf
    rw [f12_allLetters_4] at hf
    refine gr_iload_n X dX12_allLetters_4 2 rfl rfl ?_
    refine gr_aload_n X dX12_allLetters_5 0 rfl rfl ?_
    refine gf12_10 X wf_RX12_202 dX12_allLetters_6 ?_
    refine gr_icmp_ge 27 X dX12_allLetters_9 (by decide) (fun h1 => ?_) (fun h1 => ?_)
    · rw [if_pos h1] at hf
      refine gr_iload_n X dX12_allLetters_27 1 rfl rfl ?_
      exact gz_EIu hE hf rfl dX12_allLetters_28
    · rw [if_neg h1] at hf
      refine gr_iload_n X dX12_allLetters_12 1 rfl rfl ?_
      refine gr_aload_n X dX12_allLetters_13 0 rfl rfl ?_
      refine gf12_12 X wf_RX12_27 dX12_allLetters_14 ?_
      refine gr_iload_n X dX12_allLetters_17 2 rfl rfl ?_
      obtain ⟨h2, hf⟩ := gz_cke hf
      refine gr_iaload X gk_R6 (gz_inp h2) dX12_allLetters_18 ?_
      refine gr_iadd X dX12_allLetters_19 ?_
      obtain ⟨v3, ev3, hf⟩ := gz_lte hf
      refine gr_istore_n [(1, .int v3), (0, .ref (gx_ad x 0)), (2, .int x2)] X dX12_allLetters_20 ev3 rfl (by decide) rfl ?_
      obtain ⟨v4, ev4, hf⟩ := gz_lte hf
      refine gr_iinc 1 [(2, .int v4), (1, .int v3), (0, .ref (gx_ad x 0))] X dX12_allLetters_21 2 rfl (by decide) ev4 (by decide) rfl ?_
      refine gr_goto 4 X dX12_allLetters_24 (by decide) ?_
      refine gr_sub (lv' := [(0, .ref (gx_ad x 0)), (1, .int v3), (2, .int v4)]) [2, 1, 0] rfl ?_
      exact ih _ _ _ hf

def f12_allLetters (M0 : gz_M) : Option (Int32 × gz_M) := f12_allLetters_4 gz_FU 0 0 M0
set_option maxRecDepth 100000 in
theorem c12_allLetters {pf : Nat → Bool} {l : Launch} {r : Int32} {M0 M' : gz_M} (hf : f12_allLetters M0 = some (r, M')) : gz_CI l gz_cfR yX12_allLetters cX12_allLetters 3 1 .int (fun ad => [.ref (ad 0)]) pf M0 r M' := by
  refine gz_ofI (by decide +kernel) (fun _ => Nat.le_of_ble_eq_true rfl) (fun x X hc hE => ?_)
  show gz_At x 0 [(0, .ref (gx_ad x 0))] [] M0
  unfold f12_allLetters at hf
  refine gr_iconst 0 X dX12_allLetters_0 (by decide) ?_
  refine gr_istore_n [(1, .int 0), (0, .ref (gx_ad x 0))] X dX12_allLetters_1 rfl rfl (by decide) rfl ?_
  refine gr_iconst 0 X dX12_allLetters_2 (by decide) ?_
  refine gr_istore_n [(2, .int 0), (1, .int 0), (0, .ref (gx_ad x 0))] X dX12_allLetters_3 rfl rfl (by decide) rfl ?_
  refine gr_sub (lv' := [(0, .ref (gx_ad x 0)), (1, .int 0), (2, .int 0)]) [2, 1, 0] rfl ?_
  exact b12_allLetters_4 X hc hE _ _ _ _ hf

def f12_ruledModes_4 : Nat → Int32 → Int32 → gz_M → Option (Int32 × gz_M)
  | 0, _, _, _ => none
  | n + 1, x1, x2, M0 => if (M0.1 0 10) ≤ x2 then (some (x1, M0)) else (gz_ck (gz_inb x2 8) <| gz_lt (x1 ||| (gz_shl 1 (M0.1 5 x2.toNatClampNeg))) fun v3 => gz_lt (x2 + 1) fun v4 => f12_ruledModes_4 n v3 v4 M0)
theorem b12_ruledModes_4 {x : gz_X} {pf : Nat → Bool} {l : Launch} {r : Int32} {M' : gz_M} (X : gz_Ok x cX12_ruledModes RX12 3 1 gz_cfR pf l) (hc : gx_cells x ≤ (gx_R x).cells ∧ gx_slots x ≤ (gx_R x).slots) (hE : gz_EI x cX12_ruledModes .int r M') : ∀ (n : Nat) (x1 : Int32) (x2 : Int32) (M0 : gz_M), f12_ruledModes_4 n x1 x2 M0 = some (r, M') → gz_At x 4 [(0, .ref (gx_ad x 0)), (1, .int x1), (2, .int x2)] [] M0 := by
  intro n
  induction n with
  | zero =>
    intro x1 x2 M0  hf
    rw [f12_ruledModes_4] at hf
    cases hf
  | succ n ih =>
    intro x1 x2 M0  hf
    rw [f12_ruledModes_4] at hf
    refine gr_iload_n X dX12_ruledModes_4 2 rfl rfl ?_
    refine gr_aload_n X dX12_ruledModes_5 0 rfl rfl ?_
    refine gf12_10 X wf_RX12_202 dX12_ruledModes_6 ?_
    refine gr_icmp_ge 29 X dX12_ruledModes_9 (by decide) (fun h1 => ?_) (fun h1 => ?_)
    · rw [if_pos h1] at hf
      refine gr_iload_n X dX12_ruledModes_29 1 rfl rfl ?_
      exact gz_EIu hE hf rfl dX12_ruledModes_30
    · rw [if_neg h1] at hf
      refine gr_iload_n X dX12_ruledModes_12 1 rfl rfl ?_
      refine gr_iconst 1 X dX12_ruledModes_13 (by decide) ?_
      refine gr_aload_n X dX12_ruledModes_14 0 rfl rfl ?_
      refine gf12_11 X wf_RX12_24 dX12_ruledModes_15 ?_
      refine gr_iload_n X dX12_ruledModes_18 2 rfl rfl ?_
      obtain ⟨h2, hf⟩ := gz_cke hf
      refine gr_iaload X gk_R5 (gz_inp h2) dX12_ruledModes_19 ?_
      refine gr_ishl X dX12_ruledModes_20 ?_
      refine gr_ior X dX12_ruledModes_21 ?_
      obtain ⟨v3, ev3, hf⟩ := gz_lte hf
      refine gr_istore_n [(1, .int v3), (0, .ref (gx_ad x 0)), (2, .int x2)] X dX12_ruledModes_22 ev3 rfl (by decide) rfl ?_
      obtain ⟨v4, ev4, hf⟩ := gz_lte hf
      refine gr_iinc 1 [(2, .int v4), (1, .int v3), (0, .ref (gx_ad x 0))] X dX12_ruledModes_23 2 rfl (by decide) ev4 (by decide) rfl ?_
      refine gr_goto 4 X dX12_ruledModes_26 (by decide) ?_
      refine gr_sub (lv' := [(0, .ref (gx_ad x 0)), (1, .int v3), (2, .int v4)]) [2, 1, 0] rfl ?_
      exact ih _ _ _ hf

def f12_ruledModes (M0 : gz_M) : Option (Int32 × gz_M) := f12_ruledModes_4 gz_FU 0 0 M0
set_option maxRecDepth 100000 in
theorem c12_ruledModes {pf : Nat → Bool} {l : Launch} {r : Int32} {M0 M' : gz_M} (hf : f12_ruledModes M0 = some (r, M')) : gz_CI l gz_cfR yX12_ruledModes cX12_ruledModes 3 1 .int (fun ad => [.ref (ad 0)]) pf M0 r M' := by
  refine gz_ofI (by decide +kernel) (fun _ => Nat.le_of_ble_eq_true rfl) (fun x X hc hE => ?_)
  show gz_At x 0 [(0, .ref (gx_ad x 0))] [] M0
  unfold f12_ruledModes at hf
  refine gr_iconst 0 X dX12_ruledModes_0 (by decide) ?_
  refine gr_istore_n [(1, .int 0), (0, .ref (gx_ad x 0))] X dX12_ruledModes_1 rfl rfl (by decide) rfl ?_
  refine gr_iconst 0 X dX12_ruledModes_2 (by decide) ?_
  refine gr_istore_n [(2, .int 0), (1, .int 0), (0, .ref (gx_ad x 0))] X dX12_ruledModes_3 rfl rfl (by decide) rfl ?_
  refine gr_sub (lv' := [(0, .ref (gx_ad x 0)), (1, .int 0), (2, .int 0)]) [2, 1, 0] rfl ?_
  exact b12_ruledModes_4 X hc hE _ _ _ _ hf

def f12_count (a0 : Int32) (M0 : gz_M) : Option (Int32 × gz_M) := gz_lt (gz_w M0 0 5 0) fun M1 => if a0.toInt < 0 ∨ 8 < a0.toInt then (some ((-1), M1)) else if a0 = 0 then (some (M1.1 0 10, M1)) else if a0 = 1 then (gz_ck (gz_inb 81 106) <| some (M1.1 1 (81 : Int32).toNatClampNeg, M1)) else if a0 = 2 then (gz_bd (f12_cutAll 0 M1) fun M7 => some (M7.1 0 31, M7)) else if a0 = 3 then (some (M1.1 0 51, M1)) else if a0 = 4 then (some (M1.1 0 4, M1)) else if a0 = 5 then (some (M1.1 0 2, M1)) else if a0 = 6 then (gz_bd (f12_cutAll 0 M1) fun M13 => some (M13.1 0 29, M13)) else if a0 = 7 then (gz_bd2 (f12_allLetters M1) fun v16 M17 => some (v16, M17)) else if a0 = 8 then (gz_bd2 (f12_ruledModes M1) fun v20 M21 => some (v20, M21)) else none
set_option maxRecDepth 100000 in
theorem c12_count {pf : Nat → Bool} {l : Launch} {r : Int32} {M0 M' : gz_M} {a0 : Int32} (hf : f12_count a0 M0 = some (r, M')) : gz_CI l gz_cfR yX12_count cX12_count 2 4 .int (fun ad => [.ref (ad 0), .int a0]) pf M0 r M' := by
  refine gz_ofI (by decide +kernel) (fun _ => Nat.le_of_ble_eq_true rfl) (fun x X hc hE => ?_)
  show gz_At x 0 [(0, .ref (gx_ad x 0)), (1, .int a0)] [] M0
  unfold f12_count at hf
  refine gr_aload_n X dX12_count_0 0 rfl rfl ?_
  refine gr_iconst 0 X dX12_count_1 (by decide) ?_
  obtain ⟨M1, eM1, hf⟩ := gz_lte hf
  refine gp12_5 X wf_RX12_123 eM1 dX12_count_2 ?_
  refine gr_iload_n X dX12_count_5 1 rfl rfl ?_
  by_cases h2 : a0.toInt < 0 ∨ 8 < a0.toInt
  · rw [if_pos h2] at hf
    refine gr_tsOut 114 X dX12_count_6 h2 (by decide) ?_
    refine gr_iconst (-1) X dX12_count_114 (by decide) ?_
    exact gz_EIu hE hf rfl dX12_count_115
  rw [if_neg h2] at hf
  by_cases h3 : a0 = 0
  · rw [if_pos h3] at hf
    refine gr_tsIn 0 50 56 X dX12_count_6 h3 (by decide) (by decide) (by decide) (by decide) ?_
    refine gr_aload_n X dX12_count_56 0 rfl rfl ?_
    refine gf12_10 X wf_RX12_202 dX12_count_57 ?_
    exact gz_EIu hE hf rfl dX12_count_60
  rw [if_neg h3] at hf
  by_cases h4 : a0 = 1
  · rw [if_pos h4] at hf
    refine gr_tsIn 1 55 61 X dX12_count_6 h4 (by decide) (by decide) (by decide) (by decide) ?_
    refine gr_aload_n X dX12_count_61 0 rfl rfl ?_
    refine gf12_0 X wf_RX12_9 dX12_count_62 ?_
    refine gr_bipush 81 X dX12_count_65 (by decide) ?_
    obtain ⟨h5, hf⟩ := gz_cke hf
    refine gr_iaload X gk_R1 (gz_inp h5) dX12_count_67 ?_
    exact gz_EIu hE hf rfl dX12_count_68
  rw [if_neg h4] at hf
  by_cases h6 : a0 = 2
  · rw [if_pos h6] at hf
    refine gr_tsIn 2 63 69 X dX12_count_6 h6 (by decide) (by decide) (by decide) (by decide) ?_
    refine gr_aload_n X dX12_count_69 0 rfl rfl ?_
    refine gr_iconst 0 X dX12_count_70 (by decide) ?_
    obtain ⟨M7, q8, hf⟩ := gz_bde hf
    refine gr_callV (asF := fun ad => [.ref (ad 0), .int 0]) [.int 0] X (c12_cutAll q8) rfl wm_RX12_274 rfl (X.kd gk_R0).1 ((X.kd gk_R0).2 _ _ _ _) rfl (by decide) (by decide) rfl (Nat.le_of_ble_eq_true rfl) hc dX12_count_71 ?_
    refine gr_aload_n X dX12_count_74 0 rfl rfl ?_
    refine gf12_31 X wf_RX12_238 dX12_count_75 ?_
    exact gz_EIu hE hf rfl dX12_count_78
  rw [if_neg h6] at hf
  by_cases h9 : a0 = 3
  · rw [if_pos h9] at hf
    refine gr_tsIn 3 73 79 X dX12_count_6 h9 (by decide) (by decide) (by decide) (by decide) ?_
    refine gr_aload_n X dX12_count_79 0 rfl rfl ?_
    refine gf12_51 X wf_RX12_338 dX12_count_80 ?_
    exact gz_EIu hE hf rfl dX12_count_83
  rw [if_neg h9] at hf
  by_cases h10 : a0 = 4
  · rw [if_pos h10] at hf
    refine gr_tsIn 4 78 84 X dX12_count_6 h10 (by decide) (by decide) (by decide) (by decide) ?_
    refine gr_aload_n X dX12_count_84 0 rfl rfl ?_
    refine gf12_4 X wf_RX12_127 dX12_count_85 ?_
    exact gz_EIu hE hf rfl dX12_count_88
  rw [if_neg h10] at hf
  by_cases h11 : a0 = 5
  · rw [if_pos h11] at hf
    refine gr_tsIn 5 83 89 X dX12_count_6 h11 (by decide) (by decide) (by decide) (by decide) ?_
    refine gr_aload_n X dX12_count_89 0 rfl rfl ?_
    refine gf12_2 X wf_RX12_130 dX12_count_90 ?_
    exact gz_EIu hE hf rfl dX12_count_93
  rw [if_neg h11] at hf
  by_cases h12 : a0 = 6
  · rw [if_pos h12] at hf
    refine gr_tsIn 6 88 94 X dX12_count_6 h12 (by decide) (by decide) (by decide) (by decide) ?_
    refine gr_aload_n X dX12_count_94 0 rfl rfl ?_
    refine gr_iconst 0 X dX12_count_95 (by decide) ?_
    obtain ⟨M13, q14, hf⟩ := gz_bde hf
    refine gr_callV (asF := fun ad => [.ref (ad 0), .int 0]) [.int 0] X (c12_cutAll q14) rfl wm_RX12_274 rfl (X.kd gk_R0).1 ((X.kd gk_R0).2 _ _ _ _) rfl (by decide) (by decide) rfl (Nat.le_of_ble_eq_true rfl) hc dX12_count_96 ?_
    refine gr_aload_n X dX12_count_99 0 rfl rfl ?_
    refine gf12_29 X wf_RX12_235 dX12_count_100 ?_
    exact gz_EIu hE hf rfl dX12_count_103
  rw [if_neg h12] at hf
  by_cases h15 : a0 = 7
  · rw [if_pos h15] at hf
    refine gr_tsIn 7 98 104 X dX12_count_6 h15 (by decide) (by decide) (by decide) (by decide) ?_
    refine gr_aload_n X dX12_count_104 0 rfl rfl ?_
    obtain ⟨v16, M17, q18, hf⟩ := gz_bd2e hf
    refine gr_callI (asF := fun ad => [.ref (ad 0)]) [] X (c12_allLetters q18) rfl wm_RX12_372 rfl (X.kd gk_R0).1 ((X.kd gk_R0).2 _ _ _ _) rfl (by decide) (by decide) rfl (Nat.le_of_ble_eq_true rfl) hc dX12_count_105 ?_
    exact gz_EIu hE hf rfl dX12_count_108
  rw [if_neg h15] at hf
  by_cases h19 : a0 = 8
  · rw [if_pos h19] at hf
    refine gr_tsIn 8 103 109 X dX12_count_6 h19 (by decide) (by decide) (by decide) (by decide) ?_
    refine gr_aload_n X dX12_count_109 0 rfl rfl ?_
    obtain ⟨v20, M21, q22, hf⟩ := gz_bd2e hf
    refine gr_callI (asF := fun ad => [.ref (ad 0)]) [] X (c12_ruledModes q22) rfl wm_RX12_375 rfl (X.kd gk_R0).1 ((X.kd gk_R0).2 _ _ _ _) rfl (by decide) (by decide) rfl (Nat.le_of_ble_eq_true rfl) hc dX12_count_110 ?_
    exact gz_EIu hE hf rfl dX12_count_113
  rw [if_neg h19] at hf
  cases hf

def f12_row (a0 : Int32) (M0 : gz_M) : Option (Int64 × gz_M) := gz_lt (gz_w M0 0 5 0) fun M1 => gz_bd2 (f12_in a0 0 ((M1.1 0 4) - 1) M1) fun v2 M3 => if v2 = 0 then (gz_bd2 (f12_lost M3) fun v6 M7 => some (v6.toInt64, M7)) else (gz_ck (gz_inb a0 64) <| some (M3.2 a0.toNatClampNeg, M3))
set_option maxRecDepth 100000 in
theorem c12_row {pf : Nat → Bool} {l : Launch} {r : Int64} {M0 M' : gz_M} {a0 : Int32} (hf : f12_row a0 M0 = some (r, M')) : gz_CL l gz_cfR yX12_row cX12_row 2 2 .long (fun ad => [.ref (ad 0), .int a0]) pf M0 r M' := by
  refine gz_ofL (by decide +kernel) rfl (fun _ => Nat.le_of_ble_eq_true rfl) (fun x X hc hE => ?_)
  show gz_At x 0 [(0, .ref (gx_ad x 0)), (1, .int a0)] [] M0
  unfold f12_row at hf
  refine gr_aload_n X dX12_row_0 0 rfl rfl ?_
  refine gr_iconst 0 X dX12_row_1 (by decide) ?_
  obtain ⟨M1, eM1, hf⟩ := gz_lte hf
  refine gp12_5 X wf_RX12_123 eM1 dX12_row_2 ?_
  refine gr_iload_n X dX12_row_5 1 rfl rfl ?_
  refine gr_iconst 0 X dX12_row_6 (by decide) ?_
  refine gr_aload_n X dX12_row_7 0 rfl rfl ?_
  refine gf12_4 X wf_RX12_127 dX12_row_8 ?_
  refine gr_iconst 1 X dX12_row_11 (by decide) ?_
  refine gr_isub X dX12_row_12 ?_
  obtain ⟨v2, M3, q4, hf⟩ := gz_bd2e hf
  refine gr_callSI (asF := fun _ => [.int a0, .int 0, .int ((M1.1 0 4) - 1)]) [.int a0, .int 0, .int ((M1.1 0 4) - 1)] X (c12_in q4) rfl wm_RX12_133 rfl (by decide) (by decide) rfl (Nat.le_of_ble_eq_true rfl) hc dX12_row_13 ?_
  refine gr_if_eq 28 X dX12_row_16 (by decide) (fun h5 => ?_) (fun h5 => ?_)
  · rw [if_pos h5] at hf
    refine gr_aload_n X dX12_row_28 0 rfl rfl ?_
    obtain ⟨v6, M7, q8, hf⟩ := gz_bd2e hf
    refine gr_callI (asF := fun ad => [.ref (ad 0)]) [] X (c12_lost q8) rfl wm_RX12_226 rfl (X.kd gk_R0).1 ((X.kd gk_R0).2 _ _ _ _) rfl (by decide) (by decide) rfl (Nat.le_of_ble_eq_true rfl) hc dX12_row_29 ?_
    refine gr_i2l X dX12_row_32 ?_
    exact gz_ELu hE hf dX12_row_33
  · rw [if_neg h5] at hf
    refine gr_aload_n X dX12_row_19 0 rfl rfl ?_
    refine gf12_3 X wf_RX12_17 dX12_row_20 ?_
    refine gr_iload_n X dX12_row_23 1 rfl rfl ?_
    obtain ⟨h9, hf⟩ := gz_cke hf
    refine gr_laload X gk_R3 (gz_inp h9) dX12_row_24 ?_
    refine gr_goto 33 X dX12_row_25 (by decide) ?_
    exact gz_ELu hE hf dX12_row_33

