theorem wf_RX12_179 : gz_FL RX12 179 RX12 "open" "I" := Or.inl (gz_in 1252 (by decide +kernel) rfl)
theorem wc_yX12_need : Cond.instanceMethod yX12_need ∈ gz_TB ∧ Cond.selects RX12 yX12_need yX12_need ∈ gz_TB ∧ Cond.initialized yX12_need.cls ∈ gz_TB ∧ Cond.code yX12_need cX12_need 2 none ∈ gz_TB ∧ (yX12_need.cls ≠ "java/lang/invoke/MethodHandle" ∧ yX12_need.cls ≠ "java/lang/invoke/VarHandle" ∧ (parseMethodDescriptor yX12_need.desc).map (fun d => d.parameters.length) = some 1) := ⟨gz_in 1194 (by decide +kernel) rfl, gz_in 39 (by decide +kernel) rfl, gz_in 97 (by decide +kernel) rfl, gz_in 1195 (by decide +kernel) rfl, by decide +kernel⟩
theorem wm_RX12_182 : gz_WV RX12 182 RX12 yX12_need cX12_need 2 1 none := ⟨Or.inl (gz_in 1192 (by decide +kernel) rfl), wc_yX12_need⟩
theorem wc_yX12_readWay : Cond.instanceMethod yX12_readWay ∈ gz_TB ∧ Cond.selects RX12 yX12_readWay yX12_readWay ∈ gz_TB ∧ Cond.initialized yX12_readWay.cls ∈ gz_TB ∧ Cond.code yX12_readWay cX12_readWay 5 none ∈ gz_TB ∧ (yX12_readWay.cls ≠ "java/lang/invoke/MethodHandle" ∧ yX12_readWay.cls ≠ "java/lang/invoke/VarHandle" ∧ (parseMethodDescriptor yX12_readWay.desc).map (fun d => d.parameters.length) = some 1) := ⟨gz_in 1202 (by decide +kernel) rfl, gz_in 41 (by decide +kernel) rfl, gz_in 97 (by decide +kernel) rfl, gz_in 1203 (by decide +kernel) rfl, by decide +kernel⟩
theorem wm_RX12_186 : gz_WV RX12 186 RX12 yX12_readWay cX12_readWay 5 1 none := ⟨Or.inl (gz_in 1200 (by decide +kernel) rfl), wc_yX12_readWay⟩
theorem wc_yX12_follow : Cond.instanceMethod yX12_follow ∈ gz_TB ∧ Cond.selects RX12 yX12_follow yX12_follow ∈ gz_TB ∧ Cond.initialized yX12_follow.cls ∈ gz_TB ∧ Cond.code yX12_follow cX12_follow 5 none ∈ gz_TB ∧ (yX12_follow.cls ≠ "java/lang/invoke/MethodHandle" ∧ yX12_follow.cls ≠ "java/lang/invoke/VarHandle" ∧ (parseMethodDescriptor yX12_follow.desc).map (fun d => d.parameters.length) = some 3) := ⟨gz_in 1218 (by decide +kernel) rfl, gz_in 45 (by decide +kernel) rfl, gz_in 97 (by decide +kernel) rfl, gz_in 1219 (by decide +kernel) rfl, by decide +kernel⟩
theorem wm_RX12_189 : gz_WV RX12 189 RX12 yX12_follow cX12_follow 5 3 none := ⟨Or.inl (gz_in 1216 (by decide +kernel) rfl), wc_yX12_follow⟩
theorem wc_yX12_readLetter : Cond.instanceMethod yX12_readLetter ∈ gz_TB ∧ Cond.selects RX12 yX12_readLetter yX12_readLetter ∈ gz_TB ∧ Cond.initialized yX12_readLetter.cls ∈ gz_TB ∧ Cond.code yX12_readLetter cX12_readLetter 5 none ∈ gz_TB ∧ (yX12_readLetter.cls ≠ "java/lang/invoke/MethodHandle" ∧ yX12_readLetter.cls ≠ "java/lang/invoke/VarHandle" ∧ (parseMethodDescriptor yX12_readLetter.desc).map (fun d => d.parameters.length) = some 1) := ⟨gz_in 1214 (by decide +kernel) rfl, gz_in 44 (by decide +kernel) rfl, gz_in 97 (by decide +kernel) rfl, gz_in 1215 (by decide +kernel) rfl, by decide +kernel⟩
theorem wm_RX12_176 : gz_WV RX12 176 RX12 yX12_readLetter cX12_readLetter 5 1 none := ⟨Or.inl (gz_in 1212 (by decide +kernel) rfl), wc_yX12_readLetter⟩
theorem wc_yX12_readPart : Cond.instanceMethod yX12_readPart ∈ gz_TB ∧ Cond.selects RX12 yX12_readPart yX12_readPart ∈ gz_TB ∧ Cond.initialized yX12_readPart.cls ∈ gz_TB ∧ Cond.code yX12_readPart cX12_readPart 2 none ∈ gz_TB ∧ (yX12_readPart.cls ≠ "java/lang/invoke/MethodHandle" ∧ yX12_readPart.cls ≠ "java/lang/invoke/VarHandle" ∧ (parseMethodDescriptor yX12_readPart.desc).map (fun d => d.parameters.length) = some 1) := ⟨gz_in 1210 (by decide +kernel) rfl, gz_in 43 (by decide +kernel) rfl, gz_in 97 (by decide +kernel) rfl, gz_in 1211 (by decide +kernel) rfl, by decide +kernel⟩
theorem wm_RX12_193 : gz_WV RX12 193 RX12 yX12_readPart cX12_readPart 2 1 none := ⟨Or.inl (gz_in 1208 (by decide +kernel) rfl), wc_yX12_readPart⟩
theorem wc_yX12_isPart : Cond.instanceMethod yX12_isPart ∈ gz_TB ∧ Cond.selects RX12 yX12_isPart yX12_isPart ∈ gz_TB ∧ Cond.initialized yX12_isPart.cls ∈ gz_TB ∧ Cond.code yX12_isPart cX12_isPart 1 (some (.boolean)) ∈ gz_TB ∧ (yX12_isPart.cls ≠ "java/lang/invoke/MethodHandle" ∧ yX12_isPart.cls ≠ "java/lang/invoke/VarHandle" ∧ (parseMethodDescriptor yX12_isPart.desc).map (fun d => d.parameters.length) = some 0) := ⟨gz_in 1222 (by decide +kernel) rfl, gz_in 46 (by decide +kernel) rfl, gz_in 97 (by decide +kernel) rfl, gz_in 1223 (by decide +kernel) rfl, by decide +kernel⟩
theorem wm_RX12_196 : gz_WV RX12 196 RX12 yX12_isPart cX12_isPart 1 0 (some (.boolean)) := ⟨Or.inl (gz_in 1220 (by decide +kernel) rfl), wc_yX12_isPart⟩
theorem wc_yX12_readChain : Cond.instanceMethod yX12_readChain ∈ gz_TB ∧ Cond.selects RX12 yX12_readChain yX12_readChain ∈ gz_TB ∧ Cond.initialized yX12_readChain.cls ∈ gz_TB ∧ Cond.code yX12_readChain cX12_readChain 5 none ∈ gz_TB ∧ (yX12_readChain.cls ≠ "java/lang/invoke/MethodHandle" ∧ yX12_readChain.cls ≠ "java/lang/invoke/VarHandle" ∧ (parseMethodDescriptor yX12_readChain.desc).map (fun d => d.parameters.length) = some 1) := ⟨gz_in 1206 (by decide +kernel) rfl, gz_in 42 (by decide +kernel) rfl, gz_in 97 (by decide +kernel) rfl, gz_in 1207 (by decide +kernel) rfl, by decide +kernel⟩
theorem wm_RX12_199 : gz_WV RX12 199 RX12 yX12_readChain cX12_readChain 5 1 none := ⟨Or.inl (gz_in 1204 (by decide +kernel) rfl), wc_yX12_readChain⟩
theorem wc_yX12_readRule : Cond.instanceMethod yX12_readRule ∈ gz_TB ∧ Cond.selects RX12 yX12_readRule yX12_readRule ∈ gz_TB ∧ Cond.initialized yX12_readRule.cls ∈ gz_TB ∧ Cond.code yX12_readRule cX12_readRule 2 none ∈ gz_TB ∧ (yX12_readRule.cls ≠ "java/lang/invoke/MethodHandle" ∧ yX12_readRule.cls ≠ "java/lang/invoke/VarHandle" ∧ (parseMethodDescriptor yX12_readRule.desc).map (fun d => d.parameters.length) = some 1) := ⟨gz_in 1175 (by decide +kernel) rfl, gz_in 35 (by decide +kernel) rfl, gz_in 97 (by decide +kernel) rfl, gz_in 1176 (by decide +kernel) rfl, by decide +kernel⟩
theorem wm_RX12_205 : gz_WV RX12 205 RX12 yX12_readRule cX12_readRule 2 1 none := ⟨Or.inl (gz_in 1173 (by decide +kernel) rfl), wc_yX12_readRule⟩
theorem wc_yX12_readRules : Cond.instanceMethod yX12_readRules ∈ gz_TB ∧ Cond.selects RX12 yX12_readRules yX12_readRules ∈ gz_TB ∧ Cond.initialized yX12_readRules.cls ∈ gz_TB ∧ Cond.code yX12_readRules cX12_readRules 2 (some (.boolean)) ∈ gz_TB ∧ (yX12_readRules.cls ≠ "java/lang/invoke/MethodHandle" ∧ yX12_readRules.cls ≠ "java/lang/invoke/VarHandle" ∧ (parseMethodDescriptor yX12_readRules.desc).map (fun d => d.parameters.length) = some 0) := ⟨gz_in 1167 (by decide +kernel) rfl, gz_in 33 (by decide +kernel) rfl, gz_in 97 (by decide +kernel) rfl, gz_in 1168 (by decide +kernel) rfl, by decide +kernel⟩
theorem wm_RX12_211 : gz_WV RX12 211 RX12 yX12_readRules cX12_readRules 2 0 (some (.boolean)) := ⟨Or.inl (gz_in 1165 (by decide +kernel) rfl), wc_yX12_readRules⟩
theorem wc_yX12_crowded : Cond.instanceMethod yX12_crowded ∈ gz_TB ∧ Cond.selects RX12 yX12_crowded yX12_crowded ∈ gz_TB ∧ Cond.initialized yX12_crowded.cls ∈ gz_TB ∧ Cond.code yX12_crowded cX12_crowded 2 (some (.int)) ∈ gz_TB ∧ (yX12_crowded.cls ≠ "java/lang/invoke/MethodHandle" ∧ yX12_crowded.cls ≠ "java/lang/invoke/VarHandle" ∧ (parseMethodDescriptor yX12_crowded.desc).map (fun d => d.parameters.length) = some 0) := ⟨gz_in 1413 (by decide +kernel) rfl, gz_in 49 (by decide +kernel) rfl, gz_in 97 (by decide +kernel) rfl, gz_in 1414 (by decide +kernel) rfl, by decide +kernel⟩
theorem wm_RX12_217 : gz_WV RX12 217 RX12 yX12_crowded cX12_crowded 2 0 (some (.int)) := ⟨Or.inl (gz_in 1411 (by decide +kernel) rfl), wc_yX12_crowded⟩
theorem wc_yX12_layRules : Cond.instanceMethod yX12_layRules ∈ gz_TB ∧ Cond.selects RX12 yX12_layRules yX12_layRules ∈ gz_TB ∧ Cond.initialized yX12_layRules.cls ∈ gz_TB ∧ Cond.code yX12_layRules cX12_layRules 3 none ∈ gz_TB ∧ (yX12_layRules.cls ≠ "java/lang/invoke/MethodHandle" ∧ yX12_layRules.cls ≠ "java/lang/invoke/VarHandle" ∧ (parseMethodDescriptor yX12_layRules.desc).map (fun d => d.parameters.length) = some 1) := ⟨gz_in 1163 (by decide +kernel) rfl, gz_in 32 (by decide +kernel) rfl, gz_in 97 (by decide +kernel) rfl, gz_in 1164 (by decide +kernel) rfl, by decide +kernel⟩
theorem wm_RX12_119 : gz_WV RX12 119 RX12 yX12_layRules cX12_layRules 3 1 none := ⟨Or.inl (gz_in 1161 (by decide +kernel) rfl), wc_yX12_layRules⟩
theorem wf_RX4_17 : gz_FL RX4 17 RX4 "oldest" "I" := Or.inl (gz_in 419 (by decide +kernel) rfl)
theorem wm_RX4_32 : gz_WS RX4 32 yJ9_floorMod_7cf53 cJ9_floorMod_7cf53 3 2 (some (.int)) := ⟨Or.inl (gz_in 547 (by decide +kernel) rfl), wc_yJ9_floorMod_7cf53⟩
theorem wf_RX4_11 : gz_FL RX4 11 RX4 "books" "[LLongestTokens$Book;" := Or.inl (gz_in 418 (by decide +kernel) rfl)
theorem wc_yX4_slotAt : Cond.instanceMethod yX4_slotAt ∈ gz_TB ∧ Cond.selects RX4 yX4_slotAt yX4_slotAt ∈ gz_TB ∧ Cond.initialized yX4_slotAt.cls ∈ gz_TB ∧ Cond.code yX4_slotAt cX4_slotAt 3 (some (.object "LongestTokens$Book")) ∈ gz_TB ∧ (yX4_slotAt.cls ≠ "java/lang/invoke/MethodHandle" ∧ yX4_slotAt.cls ≠ "java/lang/invoke/VarHandle" ∧ (parseMethodDescriptor yX4_slotAt.desc).map (fun d => d.parameters.length) = some 1) := ⟨gz_in 545 (by decide +kernel) rfl, gz_in 4 (by decide +kernel) rfl, gz_in 96 (by decide +kernel) rfl, gz_in 546 (by decide +kernel) rfl, by decide +kernel⟩
theorem wm_RX4_24 : gz_WV RX4 24 RX4 yX4_slotAt cX4_slotAt 3 1 (some (.object "LongestTokens$Book")) := ⟨Or.inl (gz_in 543 (by decide +kernel) rfl), wc_yX4_slotAt⟩
theorem wc_yX0_copy : Cond.instanceMethod yX0_copy ∈ gz_TB ∧ Cond.selects RX0 yX0_copy yX0_copy ∈ gz_TB ∧ Cond.initialized yX0_copy.cls ∈ gz_TB ∧ Cond.code yX0_copy cX0_copy 2 none ∈ gz_TB ∧ (yX0_copy.cls ≠ "java/lang/invoke/MethodHandle" ∧ yX0_copy.cls ≠ "java/lang/invoke/VarHandle" ∧ (parseMethodDescriptor yX0_copy.desc).map (fun d => d.parameters.length) = some 1) := ⟨gz_in 552 (by decide +kernel) rfl, gz_in 553 (by decide +kernel) rfl, gz_in 89 (by decide +kernel) rfl, gz_in 554 (by decide +kernel) rfl, by decide +kernel⟩
theorem wm_RX4_28 : gz_WV RX4 28 RX0 yX0_copy cX0_copy 2 1 none := ⟨Or.inl (gz_in 551 (by decide +kernel) rfl), wc_yX0_copy⟩
theorem wf_RX11_92 : gz_FL RX11 92 RX11 "kept" "[LLongestTokens$Book;" := Or.inl (gz_in 442 (by decide +kernel) rfl)
theorem wf_RX11_51 : gz_FL RX11 51 RX11 "otherTable" "LLongestTokens$Rules;" := Or.inl (gz_in 435 (by decide +kernel) rfl)
theorem wc_yX2_alike : Cond.instanceMethod yX2_alike ∈ gz_TB ∧ Cond.selects RX2 yX2_alike yX2_alike ∈ gz_TB ∧ Cond.initialized yX2_alike.cls ∈ gz_TB ∧ Cond.code yX2_alike cX2_alike 4 (some (.int)) ∈ gz_TB ∧ (yX2_alike.cls ≠ "java/lang/invoke/MethodHandle" ∧ yX2_alike.cls ≠ "java/lang/invoke/VarHandle" ∧ (parseMethodDescriptor yX2_alike.desc).map (fun d => d.parameters.length) = some 1) := ⟨gz_in 746 (by decide +kernel) rfl, gz_in 747 (by decide +kernel) rfl, gz_in 92 (by decide +kernel) rfl, gz_in 748 (by decide +kernel) rfl, by decide +kernel⟩
theorem wm_RX11_234 : gz_WV RX11 234 RX2 yX2_alike cX2_alike 4 1 (some (.int)) := ⟨Or.inl (gz_in 745 (by decide +kernel) rfl), wc_yX2_alike⟩
theorem wm_RX11_367 : gz_WV RX11 367 RX0 yX0_copy cX0_copy 2 1 none := ⟨Or.inl (gz_in 1041 (by decide +kernel) rfl), wc_yX0_copy⟩
theorem wc_yX4_forget : Cond.instanceMethod yX4_forget ∈ gz_TB ∧ Cond.selects RX4 yX4_forget yX4_forget ∈ gz_TB ∧ Cond.initialized yX4_forget.cls ∈ gz_TB ∧ Cond.code yX4_forget cX4_forget 1 none ∈ gz_TB ∧ (yX4_forget.cls ≠ "java/lang/invoke/MethodHandle" ∧ yX4_forget.cls ≠ "java/lang/invoke/VarHandle" ∧ (parseMethodDescriptor yX4_forget.desc).map (fun d => d.parameters.length) = some 0) := ⟨gz_in 1047 (by decide +kernel) rfl, gz_in 1048 (by decide +kernel) rfl, gz_in 96 (by decide +kernel) rfl, gz_in 1049 (by decide +kernel) rfl, by decide +kernel⟩
theorem wm_RX11_369 : gz_WV RX11 369 RX4 yX4_forget cX4_forget 1 0 none := ⟨Or.inl (gz_in 1046 (by decide +kernel) rfl), wc_yX4_forget⟩
theorem wc_yX11_refresh : Cond.instanceMethod yX11_refresh ∈ gz_TB ∧ Cond.selects RX11 yX11_refresh yX11_refresh ∈ gz_TB ∧ Cond.initialized yX11_refresh.cls ∈ gz_TB ∧ Cond.code yX11_refresh cX11_refresh 1 none ∈ gz_TB ∧ (yX11_refresh.cls ≠ "java/lang/invoke/MethodHandle" ∧ yX11_refresh.cls ≠ "java/lang/invoke/VarHandle" ∧ (parseMethodDescriptor yX11_refresh.desc).map (fun d => d.parameters.length) = some 0) := ⟨gz_in 569 (by decide +kernel) rfl, gz_in 5 (by decide +kernel) rfl, gz_in 85 (by decide +kernel) rfl, gz_in 570 (by decide +kernel) rfl, by decide +kernel⟩
theorem wm_RX11_129 : gz_WV RX11 129 RX11 yX11_refresh cX11_refresh 1 0 none := ⟨Or.inl (gz_in 567 (by decide +kernel) rfl), wc_yX11_refresh⟩
theorem wc_yX4_pop : Cond.instanceMethod yX4_pop ∈ gz_TB ∧ Cond.selects RX4 yX4_pop yX4_pop ∈ gz_TB ∧ Cond.initialized yX4_pop.cls ∈ gz_TB ∧ Cond.code yX4_pop cX4_pop 2 (some (.boolean)) ∈ gz_TB ∧ (yX4_pop.cls ≠ "java/lang/invoke/MethodHandle" ∧ yX4_pop.cls ≠ "java/lang/invoke/VarHandle" ∧ (parseMethodDescriptor yX4_pop.desc).map (fun d => d.parameters.length) = some 1) := ⟨gz_in 1023 (by decide +kernel) rfl, gz_in 1024 (by decide +kernel) rfl, gz_in 96 (by decide +kernel) rfl, gz_in 1025 (by decide +kernel) rfl, by decide +kernel⟩
theorem wm_RX11_353 : gz_WV RX11 353 RX4 yX4_pop cX4_pop 2 1 (some (.boolean)) := ⟨Or.inl (gz_in 1022 (by decide +kernel) rfl), wc_yX4_pop⟩
def f12_readPart_163 (W : Int32 → gz_M → Option gz_M) (c102 : Int32 → gz_M → Option (gz_M)) (x1 : Int32) (M0 : gz_M) : Option (gz_M) := gz_bd2 (f12_here M0) fun v1 M2 => if v1 = 43 then (gz_lt (gz_w M2 0 8 ((M2.1 0 8) + 1)) fun M5 => c102 x1 M5) else (gz_ck (gz_b01 1) <| gz_lt (gz_w M2 0 21 1) fun M7 => gz_lt (gz_w M7 0 8 ((M7.1 0 8) + 1)) fun M8 => c102 x1 M8)
theorem b12_readPart_163 {x : gz_X} {n9 : Nat} {pf : Nat → Bool} {l : Launch} {M' : gz_M} (X : gz_Ok x cX12_readPart RX12 2 (8 + 3 * n9 + 1) gz_cfR pf l) (hc : gx_cells x ≤ (gx_R x).cells ∧ gx_slots x ≤ (gx_R x).slots) (hE : gz_EV x cX12_readPart M') {W : Int32 → gz_M → Option gz_M} (hW : ∀ (a0 : Int32) (M0 M1 : gz_M), W a0 M0 = some M1 → gz_CV l gz_cfR yX12_readWay cX12_readWay 5 (8 + 3 * n9) (fun ad => [.ref (ad 0), .int a0]) pf M0 M1) {c102 : Int32 → gz_M → Option (gz_M)} (hc102 : ∀ (x1 : Int32) (M0 : gz_M), c102 x1 M0 = some M' → gz_At x 102 [(0, .ref (gx_ad x 0)), (1, .int x1)] [] M0) : ∀ (x1 : Int32) (M0 : gz_M), f12_readPart_163 W c102 x1 M0 = some M' → gz_At x 163 [(0, .ref (gx_ad x 0)), (1, .int x1)] [] M0 := by
  intro x1 M0  hf
  rw [f12_readPart_163] at hf
  refine gr_aload_n X dX12_readPart_163 0 rfl rfl ?_
  obtain ⟨v1, M2, q3, hf⟩ := gz_bd2e hf
  refine gr_callI (asF := fun ad => [.ref (ad 0)]) [] X (c12_here q3) rfl wm_RX12_150 rfl (X.kd gk_R0).1 ((X.kd gk_R0).2 _ _ _ _) rfl (by omega) (by decide) rfl (Nat.le_of_ble_eq_true rfl) hc dX12_readPart_164 ?_
  refine gr_bipush 43 X dX12_readPart_167 (by decide) ?_
  refine gr_icmp_eq 177 X dX12_readPart_169 (by decide) (fun h4 => ?_) (fun h4 => ?_)
  · rw [if_pos h4] at hf
    refine gr_aload_n X dX12_readPart_177 0 rfl rfl ?_
    refine gr_dup X dX12_readPart_178 rfl ?_
    refine gf12_8 X wf_RX12_140 dX12_readPart_179 ?_
    refine gr_iconst 1 X dX12_readPart_182 (by decide) ?_
    refine gr_iadd X dX12_readPart_183 ?_
    obtain ⟨M5, eM5, hf⟩ := gz_lte hf
    refine gp12_8 X wf_RX12_140 eM5 dX12_readPart_184 ?_
    refine gr_goto 102 X dX12_readPart_187 (by decide) ?_
    exact hc102 _ _ hf
  · rw [if_neg h4] at hf
    refine gr_aload_n X dX12_readPart_172 0 rfl rfl ?_
    refine gr_iconst 1 X dX12_readPart_173 (by decide) ?_
    obtain ⟨h6, hf⟩ := gz_cke hf
    obtain ⟨M7, eM7, hf⟩ := gz_lte hf
    refine gp12_21 X wf_RX12_166 h6 eM7 dX12_readPart_174 ?_
    refine gr_aload_n X dX12_readPart_177 0 rfl rfl ?_
    refine gr_dup X dX12_readPart_178 rfl ?_
    refine gf12_8 X wf_RX12_140 dX12_readPart_179 ?_
    refine gr_iconst 1 X dX12_readPart_182 (by decide) ?_
    refine gr_iadd X dX12_readPart_183 ?_
    obtain ⟨M8, eM8, hf⟩ := gz_lte hf
    refine gp12_8 X wf_RX12_140 eM8 dX12_readPart_184 ?_
    refine gr_goto 102 X dX12_readPart_187 (by decide) ?_
    exact hc102 _ _ hf

def f12_readPart_136 (W : Int32 → gz_M → Option gz_M) (c102 : Int32 → gz_M → Option (gz_M)) (x1 : Int32) (M0 : gz_M) : Option (gz_M) := gz_bd2 (f12_here M0) fun v1 M2 => if v1 = 63 then (f12_readPart_163 W c102 x1 M2) else (gz_ck (gz_inb x1 8) <| gz_bd (f12_follow (M2.1 5 x1.toNatClampNeg) (M2.1 0 23) (M2.1 0 22) M2) fun M6 => f12_readPart_163 W c102 x1 M6)
theorem b12_readPart_136 {x : gz_X} {n9 : Nat} {pf : Nat → Bool} {l : Launch} {M' : gz_M} (X : gz_Ok x cX12_readPart RX12 2 (8 + 3 * n9 + 1) gz_cfR pf l) (hc : gx_cells x ≤ (gx_R x).cells ∧ gx_slots x ≤ (gx_R x).slots) (hE : gz_EV x cX12_readPart M') {W : Int32 → gz_M → Option gz_M} (hW : ∀ (a0 : Int32) (M0 M1 : gz_M), W a0 M0 = some M1 → gz_CV l gz_cfR yX12_readWay cX12_readWay 5 (8 + 3 * n9) (fun ad => [.ref (ad 0), .int a0]) pf M0 M1) {c102 : Int32 → gz_M → Option (gz_M)} (hc102 : ∀ (x1 : Int32) (M0 : gz_M), c102 x1 M0 = some M' → gz_At x 102 [(0, .ref (gx_ad x 0)), (1, .int x1)] [] M0) : ∀ (x1 : Int32) (M0 : gz_M), f12_readPart_136 W c102 x1 M0 = some M' → gz_At x 136 [(0, .ref (gx_ad x 0)), (1, .int x1)] [] M0 := by
  intro x1 M0  hf
  rw [f12_readPart_136] at hf
  refine gr_aload_n X dX12_readPart_136 0 rfl rfl ?_
  obtain ⟨v1, M2, q3, hf⟩ := gz_bd2e hf
  refine gr_callI (asF := fun ad => [.ref (ad 0)]) [] X (c12_here q3) rfl wm_RX12_150 rfl (X.kd gk_R0).1 ((X.kd gk_R0).2 _ _ _ _) rfl (by omega) (by decide) rfl (Nat.le_of_ble_eq_true rfl) hc dX12_readPart_137 ?_
  refine gr_bipush 63 X dX12_readPart_140 (by decide) ?_
  refine gr_icmp_eq 163 X dX12_readPart_142 (by decide) (fun h4 => ?_) (fun h4 => ?_)
  · rw [if_pos h4] at hf
    exact b12_readPart_163 X hc hE hW hc102 _ _ hf
  · rw [if_neg h4] at hf
    refine gr_aload_n X dX12_readPart_145 0 rfl rfl ?_
    refine gr_aload_n X dX12_readPart_146 0 rfl rfl ?_
    refine gf12_11 X wf_RX12_24 dX12_readPart_147 ?_
    refine gr_iload_n X dX12_readPart_150 1 rfl rfl ?_
    obtain ⟨h5, hf⟩ := gz_cke hf
    refine gr_iaload X gk_R5 (gz_inp h5) dX12_readPart_151 ?_
    refine gr_aload_n X dX12_readPart_152 0 rfl rfl ?_
    refine gf12_23 X wf_RX12_173 dX12_readPart_153 ?_
    refine gr_aload_n X dX12_readPart_156 0 rfl rfl ?_
    refine gf12_22 X wf_RX12_170 dX12_readPart_157 ?_
    obtain ⟨M6, q7, hf⟩ := gz_bde hf
    refine gr_callV (asF := fun ad => [.ref (ad 0), .int (M2.1 5 x1.toNatClampNeg), .int (M2.1 0 23), .int (M2.1 0 22)]) [.int (M2.1 5 x1.toNatClampNeg), .int (M2.1 0 23), .int (M2.1 0 22)] X (c12_follow q7) rfl wm_RX12_189 rfl (X.kd gk_R0).1 ((X.kd gk_R0).2 _ _ _ _) rfl (by omega) (by decide) rfl (Nat.le_of_ble_eq_true rfl) hc dX12_readPart_160 ?_
    exact b12_readPart_163 X hc hE hW hc102 _ _ hf

def f12_readPart_102 (W : Int32 → gz_M → Option gz_M) : Nat → Int32 → gz_M → Option (gz_M)
  | 0, _, _ => none
  | n + 1, x1, M0 => gz_bd2 (f12_fine M0) fun v1 M2 => if v1 = 0 then (some M2) else (gz_bd2 (f12_here M2) fun v5 M6 => if v5 = 42 then (f12_readPart_136 W (f12_readPart_102 W n) x1 M6) else (gz_bd2 (f12_here M6) fun v9 M10 => if v9 = 43 then (f12_readPart_136 W (f12_readPart_102 W n) x1 M10) else (gz_bd2 (f12_here M10) fun v13 M14 => if v13 = 63 then (f12_readPart_136 W (f12_readPart_102 W n) x1 M14) else (some M14))))
theorem b12_readPart_102 {x : gz_X} {n9 : Nat} {pf : Nat → Bool} {l : Launch} {M' : gz_M} (X : gz_Ok x cX12_readPart RX12 2 (8 + 3 * n9 + 1) gz_cfR pf l) (hc : gx_cells x ≤ (gx_R x).cells ∧ gx_slots x ≤ (gx_R x).slots) (hE : gz_EV x cX12_readPart M') {W : Int32 → gz_M → Option gz_M} (hW : ∀ (a0 : Int32) (M0 M1 : gz_M), W a0 M0 = some M1 → gz_CV l gz_cfR yX12_readWay cX12_readWay 5 (8 + 3 * n9) (fun ad => [.ref (ad 0), .int a0]) pf M0 M1) : ∀ (n : Nat) (x1 : Int32) (M0 : gz_M), f12_readPart_102 W n x1 M0 = some M' → gz_At x 102 [(0, .ref (gx_ad x 0)), (1, .int x1)] [] M0 := by
  intro n
  induction n with
  | zero =>
    intro x1 M0  hf
    rw [f12_readPart_102] at hf
    cases hf
  | succ n ih =>
    intro x1 M0  hf
    rw [f12_readPart_102] at hf
    refine gr_aload_n X dX12_readPart_102 0 rfl rfl ?_
    obtain ⟨v1, M2, q3, hf⟩ := gz_bd2e hf
    refine gr_callI (asF := fun ad => [.ref (ad 0)]) [] X (c12_fine q3) rfl wm_RX12_146 rfl (X.kd gk_R0).1 ((X.kd gk_R0).2 _ _ _ _) rfl (by omega) (by decide) rfl (Nat.le_of_ble_eq_true rfl) hc dX12_readPart_103 ?_
    refine gr_if_eq 190 X dX12_readPart_106 (by decide) (fun h4 => ?_) (fun h4 => ?_)
    · rw [if_pos h4] at hf
      exact gz_EVu hE hf dX12_readPart_190
    · rw [if_neg h4] at hf
      refine gr_aload_n X dX12_readPart_109 0 rfl rfl ?_
      obtain ⟨v5, M6, q7, hf⟩ := gz_bd2e hf
      refine gr_callI (asF := fun ad => [.ref (ad 0)]) [] X (c12_here q7) rfl wm_RX12_150 rfl (X.kd gk_R0).1 ((X.kd gk_R0).2 _ _ _ _) rfl (by omega) (by decide) rfl (Nat.le_of_ble_eq_true rfl) hc dX12_readPart_110 ?_
      refine gr_bipush 42 X dX12_readPart_113 (by decide) ?_
      refine gr_icmp_eq 136 X dX12_readPart_115 (by decide) (fun h8 => ?_) (fun h8 => ?_)
      · rw [if_pos h8] at hf
        exact b12_readPart_136 X hc hE hW ih _ _ hf
      · rw [if_neg h8] at hf
        refine gr_aload_n X dX12_readPart_118 0 rfl rfl ?_
        obtain ⟨v9, M10, q11, hf⟩ := gz_bd2e hf
        refine gr_callI (asF := fun ad => [.ref (ad 0)]) [] X (c12_here q11) rfl wm_RX12_150 rfl (X.kd gk_R0).1 ((X.kd gk_R0).2 _ _ _ _) rfl (by omega) (by decide) rfl (Nat.le_of_ble_eq_true rfl) hc dX12_readPart_119 ?_
        refine gr_bipush 43 X dX12_readPart_122 (by decide) ?_
        refine gr_icmp_eq 136 X dX12_readPart_124 (by decide) (fun h12 => ?_) (fun h12 => ?_)
        · rw [if_pos h12] at hf
          exact b12_readPart_136 X hc hE hW ih _ _ hf
        · rw [if_neg h12] at hf
          refine gr_aload_n X dX12_readPart_127 0 rfl rfl ?_
          obtain ⟨v13, M14, q15, hf⟩ := gz_bd2e hf
          refine gr_callI (asF := fun ad => [.ref (ad 0)]) [] X (c12_here q15) rfl wm_RX12_150 rfl (X.kd gk_R0).1 ((X.kd gk_R0).2 _ _ _ _) rfl (by omega) (by decide) rfl (Nat.le_of_ble_eq_true rfl) hc dX12_readPart_128 ?_
          refine gr_bipush 63 X dX12_readPart_131 (by decide) ?_
          refine gr_icmp_ne 190 X dX12_readPart_133 (by decide) (fun h16 => ?_) (fun h16 => ?_)
          · rw [if_pos h16] at hf
            exact b12_readPart_136 X hc hE hW ih _ _ hf
          · rw [if_neg h16] at hf
            exact gz_EVu hE hf dX12_readPart_190

def f12_readPart_23 (W : Int32 → gz_M → Option gz_M) (x1 : Int32) (M0 : gz_M) : Option (gz_M) := gz_bd (f12_readLetter x1 M0) fun M1 => f12_readPart_102 W gz_FU x1 M1
theorem b12_readPart_23 {x : gz_X} {n9 : Nat} {pf : Nat → Bool} {l : Launch} {M' : gz_M} (X : gz_Ok x cX12_readPart RX12 2 (8 + 3 * n9 + 1) gz_cfR pf l) (hc : gx_cells x ≤ (gx_R x).cells ∧ gx_slots x ≤ (gx_R x).slots) (hE : gz_EV x cX12_readPart M') {W : Int32 → gz_M → Option gz_M} (hW : ∀ (a0 : Int32) (M0 M1 : gz_M), W a0 M0 = some M1 → gz_CV l gz_cfR yX12_readWay cX12_readWay 5 (8 + 3 * n9) (fun ad => [.ref (ad 0), .int a0]) pf M0 M1) : ∀ (x1 : Int32) (M0 : gz_M), f12_readPart_23 W x1 M0 = some M' → gz_At x 23 [(0, .ref (gx_ad x 0)), (1, .int x1)] [] M0 := by
  intro x1 M0  hf
  rw [f12_readPart_23] at hf
  refine gr_aload_n X dX12_readPart_23 0 rfl rfl ?_
  refine gr_iload_n X dX12_readPart_24 1 rfl rfl ?_
  obtain ⟨M1, q2, hf⟩ := gz_bde hf
  refine gr_callV (asF := fun ad => [.ref (ad 0), .int x1]) [.int x1] X (c12_readLetter q2) rfl wm_RX12_176 rfl (X.kd gk_R0).1 ((X.kd gk_R0).2 _ _ _ _) rfl (by omega) (by decide) rfl (Nat.le_of_ble_eq_true rfl) hc dX12_readPart_25 ?_
  refine gr_goto 102 X dX12_readPart_28 (by decide) ?_
  exact b12_readPart_102 X hc hE hW _ _ _ hf

def f12_readPart_57 (W : Int32 → gz_M → Option gz_M) (x1 : Int32) (M0 : gz_M) : Option (gz_M) := gz_bd (f12_need 40 M0) fun M1 => gz_bd2 (f12_fine M1) fun v3 M4 => if v3 = 0 then (some M4) else (gz_lt (gz_w M4 0 24 ((M4.1 0 24) + 1)) fun M7 => gz_bd (W x1 M7) fun M8 => gz_bd (f12_need 41 M8) fun M10 => gz_lt (gz_w M10 0 24 ((M10.1 0 24) - 1)) fun M12 => f12_readPart_102 W gz_FU x1 M12)
theorem b12_readPart_57 {x : gz_X} {n9 : Nat} {pf : Nat → Bool} {l : Launch} {M' : gz_M} (X : gz_Ok x cX12_readPart RX12 2 (8 + 3 * n9 + 1) gz_cfR pf l) (hc : gx_cells x ≤ (gx_R x).cells ∧ gx_slots x ≤ (gx_R x).slots) (hE : gz_EV x cX12_readPart M') {W : Int32 → gz_M → Option gz_M} (hW : ∀ (a0 : Int32) (M0 M1 : gz_M), W a0 M0 = some M1 → gz_CV l gz_cfR yX12_readWay cX12_readWay 5 (8 + 3 * n9) (fun ad => [.ref (ad 0), .int a0]) pf M0 M1) : ∀ (x1 : Int32) (M0 : gz_M), f12_readPart_57 W x1 M0 = some M' → gz_At x 57 [(0, .ref (gx_ad x 0)), (1, .int x1)] [] M0 := by
  intro x1 M0  hf
  rw [f12_readPart_57] at hf
  refine gr_aload_n X dX12_readPart_57 0 rfl rfl ?_
  refine gr_bipush 40 X dX12_readPart_58 (by decide) ?_
  obtain ⟨M1, q2, hf⟩ := gz_bde hf
  refine gr_callV (asF := fun ad => [.ref (ad 0), .int 40]) [.int 40] X (c12_need q2) rfl wm_RX12_182 rfl (X.kd gk_R0).1 ((X.kd gk_R0).2 _ _ _ _) rfl (by omega) (by decide) rfl (Nat.le_of_ble_eq_true rfl) hc dX12_readPart_60 ?_
  refine gr_aload_n X dX12_readPart_63 0 rfl rfl ?_
  obtain ⟨v3, M4, q5, hf⟩ := gz_bd2e hf
  refine gr_callI (asF := fun ad => [.ref (ad 0)]) [] X (c12_fine q5) rfl wm_RX12_146 rfl (X.kd gk_R0).1 ((X.kd gk_R0).2 _ _ _ _) rfl (by omega) (by decide) rfl (Nat.le_of_ble_eq_true rfl) hc dX12_readPart_64 ?_
  refine gr_if_ne 71 X dX12_readPart_67 (by decide) (fun h6 => ?_) (fun h6 => ?_)
  · rw [if_pos h6] at hf
    exact gz_EVu hE hf dX12_readPart_70
  · rw [if_neg h6] at hf
    refine gr_aload_n X dX12_readPart_71 0 rfl rfl ?_
    refine gr_dup X dX12_readPart_72 rfl ?_
    refine gf12_24 X wf_RX12_179 dX12_readPart_73 ?_
    refine gr_iconst 1 X dX12_readPart_76 (by decide) ?_
    refine gr_iadd X dX12_readPart_77 ?_
    obtain ⟨M7, eM7, hf⟩ := gz_lte hf
    refine gp12_24 X wf_RX12_179 eM7 dX12_readPart_78 ?_
    refine gr_aload_n X dX12_readPart_81 0 rfl rfl ?_
    refine gr_iload_n X dX12_readPart_82 1 rfl rfl ?_
    obtain ⟨M8, q9, hf⟩ := gz_bde hf
    refine gr_callV (asF := fun ad => [.ref (ad 0), .int x1]) [.int x1] X (hW _ _ _ q9) rfl wm_RX12_186 rfl (X.kd gk_R0).1 ((X.kd gk_R0).2 _ _ _ _) rfl (by omega) (by decide) rfl (Nat.le_of_ble_eq_true rfl) hc dX12_readPart_83 ?_
    refine gr_aload_n X dX12_readPart_86 0 rfl rfl ?_
    refine gr_bipush 41 X dX12_readPart_87 (by decide) ?_
    obtain ⟨M10, q11, hf⟩ := gz_bde hf
    refine gr_callV (asF := fun ad => [.ref (ad 0), .int 41]) [.int 41] X (c12_need q11) rfl wm_RX12_182 rfl (X.kd gk_R0).1 ((X.kd gk_R0).2 _ _ _ _) rfl (by omega) (by decide) rfl (Nat.le_of_ble_eq_true rfl) hc dX12_readPart_89 ?_
    refine gr_aload_n X dX12_readPart_92 0 rfl rfl ?_
    refine gr_dup X dX12_readPart_93 rfl ?_
    refine gf12_24 X wf_RX12_179 dX12_readPart_94 ?_
    refine gr_iconst 1 X dX12_readPart_97 (by decide) ?_
    refine gr_isub X dX12_readPart_98 ?_
    obtain ⟨M12, eM12, hf⟩ := gz_lte hf
    refine gp12_24 X wf_RX12_179 eM12 dX12_readPart_99 ?_
    exact b12_readPart_102 X hc hE hW _ _ _ hf

def f12_readPart (W : Int32 → gz_M → Option gz_M) (a0 : Int32) (M0 : gz_M) : Option (gz_M) := gz_bd2 (f12_here M0) fun v1 M2 => gz_bd2 (f12_in v1 97 104 M2) fun v4 M5 => if v4 = 0 then (gz_bd2 (f12_here M5) fun v8 M9 => if v8 = 46 then (f12_readPart_23 W a0 M9) else (gz_bd2 (f12_here M9) fun v12 M13 => if v12 = 40 then (if (M13.1 0 24) = 6 then (gz_bd (f12_fault (M13.1 0 8) M13) fun M17 => f12_readPart_57 W a0 M17) else (f12_readPart_57 W a0 M13)) else (f12_readPart_57 W a0 M13))) else (f12_readPart_23 W a0 M5)
set_option maxRecDepth 100000 in
theorem c12_readPart {n9 : Nat} {pf : Nat → Bool} {l : Launch} {M0 M' : gz_M} {W : Int32 → gz_M → Option gz_M} {a0 : Int32} (hW : ∀ (a0 : Int32) (M0 M1 : gz_M), W a0 M0 = some M1 → gz_CV l gz_cfR yX12_readWay cX12_readWay 5 (8 + 3 * n9) (fun ad => [.ref (ad 0), .int a0]) pf M0 M1) (hf : f12_readPart W a0 M0 = some M') : gz_CV l gz_cfR yX12_readPart cX12_readPart 2 (8 + 3 * n9 + 1) (fun ad => [.ref (ad 0), .int a0]) pf M0 M' := by
  refine gz_ofV (by decide +kernel) (fun _ => Nat.le_of_ble_eq_true rfl) (fun x X hc hE => ?_)
  show gz_At x 0 [(0, .ref (gx_ad x 0)), (1, .int a0)] [] M0
  unfold f12_readPart at hf
  refine gr_aload_n X dX12_readPart_0 0 rfl rfl ?_
  obtain ⟨v1, M2, q3, hf⟩ := gz_bd2e hf
  refine gr_callI (asF := fun ad => [.ref (ad 0)]) [] X (c12_here q3) rfl wm_RX12_150 rfl (X.kd gk_R0).1 ((X.kd gk_R0).2 _ _ _ _) rfl (by omega) (by decide) rfl (Nat.le_of_ble_eq_true rfl) hc dX12_readPart_1 ?_
  refine gr_bipush 97 X dX12_readPart_4 (by decide) ?_
  refine gr_bipush 104 X dX12_readPart_6 (by decide) ?_
  obtain ⟨v4, M5, q6, hf⟩ := gz_bd2e hf
  refine gr_callSI (asF := fun _ => [.int v1, .int 97, .int 104]) [.int v1, .int 97, .int 104] X (c12_in q6) rfl wm_RX12_133 rfl (by omega) (by decide) rfl (Nat.le_of_ble_eq_true rfl) hc dX12_readPart_8 ?_
  refine gr_if_ne 23 X dX12_readPart_11 (by decide) (fun h7 => ?_) (fun h7 => ?_)
  · rw [if_pos h7] at hf
    refine gr_aload_n X dX12_readPart_14 0 rfl rfl ?_
    obtain ⟨v8, M9, q10, hf⟩ := gz_bd2e hf
    refine gr_callI (asF := fun ad => [.ref (ad 0)]) [] X (c12_here q10) rfl wm_RX12_150 rfl (X.kd gk_R0).1 ((X.kd gk_R0).2 _ _ _ _) rfl (by omega) (by decide) rfl (Nat.le_of_ble_eq_true rfl) hc dX12_readPart_15 ?_
    refine gr_bipush 46 X dX12_readPart_18 (by decide) ?_
    refine gr_icmp_ne 31 X dX12_readPart_20 (by decide) (fun h11 => ?_) (fun h11 => ?_)
    · rw [if_pos h11] at hf
      exact b12_readPart_23 X hc hE hW _ _ hf
    · rw [if_neg h11] at hf
      refine gr_aload_n X dX12_readPart_31 0 rfl rfl ?_
      obtain ⟨v12, M13, q14, hf⟩ := gz_bd2e hf
      refine gr_callI (asF := fun ad => [.ref (ad 0)]) [] X (c12_here q14) rfl wm_RX12_150 rfl (X.kd gk_R0).1 ((X.kd gk_R0).2 _ _ _ _) rfl (by omega) (by decide) rfl (Nat.le_of_ble_eq_true rfl) hc dX12_readPart_32 ?_
      refine gr_bipush 40 X dX12_readPart_35 (by decide) ?_
      refine gr_icmp_ne 57 X dX12_readPart_37 (by decide) (fun h15 => ?_) (fun h15 => ?_)
      · rw [if_pos h15] at hf
        refine gr_aload_n X dX12_readPart_40 0 rfl rfl ?_
        refine gf12_24 X wf_RX12_179 dX12_readPart_41 ?_
        refine gr_bipush 6 X dX12_readPart_44 (by decide) ?_
        refine gr_icmp_ne 57 X dX12_readPart_46 (by decide) (fun h16 => ?_) (fun h16 => ?_)
        · rw [if_pos h16] at hf
          refine gr_aload_n X dX12_readPart_49 0 rfl rfl ?_
          refine gr_aload_n X dX12_readPart_50 0 rfl rfl ?_
          refine gf12_8 X wf_RX12_140 dX12_readPart_51 ?_
          obtain ⟨M17, q18, hf⟩ := gz_bde hf
          refine gr_callV (asF := fun ad => [.ref (ad 0), .int (M13.1 0 8)]) [.int (M13.1 0 8)] X (c12_fault q18) rfl wm_RX12_158 rfl (X.kd gk_R0).1 ((X.kd gk_R0).2 _ _ _ _) rfl (by omega) (by decide) rfl (Nat.le_of_ble_eq_true rfl) hc dX12_readPart_54 ?_
          exact b12_readPart_57 X hc hE hW _ _ hf
        · rw [if_neg h16] at hf
          exact b12_readPart_57 X hc hE hW _ _ hf
      · rw [if_neg h15] at hf
        exact b12_readPart_57 X hc hE hW _ _ hf
  · rw [if_neg h7] at hf
    exact b12_readPart_23 X hc hE hW _ _ hf

def f12_readChain_96 (W : Int32 → gz_M → Option gz_M) (c5 : Int32 → gz_M → Option (gz_M)) (x1 : Int32) (x2 : Int32) (s0 : Int32) (M0 : gz_M) : Option (gz_M) := gz_lt (gz_w M0 0 23 s0) fun M1 => if x2 = 0 then (gz_ck (gz_b01 0) <| gz_lt (gz_w M1 0 21 0) fun M4 => c5 x1 M4) else (if (M1.1 0 21) = 0 then (gz_ck (gz_b01 0) <| gz_lt (gz_w M1 0 21 0) fun M7 => c5 x1 M7) else (gz_ck (gz_b01 1) <| gz_lt (gz_w M1 0 21 1) fun M9 => c5 x1 M9))
theorem b12_readChain_96 {x : gz_X} {n9 : Nat} {pf : Nat → Bool} {l : Launch} {M' : gz_M} (X : gz_Ok x cX12_readChain RX12 5 (8 + 3 * n9 + 2) gz_cfR pf l) (hc : gx_cells x ≤ (gx_R x).cells ∧ gx_slots x ≤ (gx_R x).slots) (hE : gz_EV x cX12_readChain M') {W : Int32 → gz_M → Option gz_M} (hW : ∀ (a0 : Int32) (M0 M1 : gz_M), W a0 M0 = some M1 → gz_CV l gz_cfR yX12_readWay cX12_readWay 5 (8 + 3 * n9) (fun ad => [.ref (ad 0), .int a0]) pf M0 M1) {c5 : Int32 → gz_M → Option (gz_M)} (hc5 : ∀ (x1 : Int32) (M0 : gz_M), c5 x1 M0 = some M' → gz_At x 5 [(0, .ref (gx_ad x 0)), (1, .int x1)] [] M0) : ∀ (x1 : Int32) (x2 : Int32) (s0 : Int32) (M0 : gz_M), f12_readChain_96 W c5 x1 x2 s0 M0 = some M' → gz_At x 96 [(0, .ref (gx_ad x 0)), (1, .int x1), (2, .int x2)] [.int s0, .ref (gx_ad x 0)] M0 := by
  intro x1 x2 s0 M0  hf
  rw [f12_readChain_96] at hf
  obtain ⟨M1, eM1, hf⟩ := gz_lte hf
  refine gp12_23 X wf_RX12_173 eM1 dX12_readChain_96 ?_
  refine gr_aload_n X dX12_readChain_99 0 rfl rfl ?_
  refine gr_iload_n X dX12_readChain_100 2 rfl rfl ?_
  refine gr_if_eq 115 X dX12_readChain_101 (by decide) (fun h2 => ?_) (fun h2 => ?_)
  · rw [if_pos h2] at hf
    refine gr_iconst 0 X dX12_readChain_115 (by decide) ?_
    obtain ⟨h3, hf⟩ := gz_cke hf
    obtain ⟨M4, eM4, hf⟩ := gz_lte hf
    refine gp12_21 X wf_RX12_166 h3 eM4 dX12_readChain_116 ?_
    refine gr_goto 5 X dX12_readChain_119 (by decide) ?_
    refine gr_sub (lv' := [(0, .ref (gx_ad x 0)), (1, .int x1)]) [0, 1] rfl ?_
    exact hc5 _ _ hf
  · rw [if_neg h2] at hf
    refine gr_aload_n X dX12_readChain_104 0 rfl rfl ?_
    refine gf12_21 X wf_RX12_166 dX12_readChain_105 ?_
    refine gr_if_eq 115 X dX12_readChain_108 (by decide) (fun h5 => ?_) (fun h5 => ?_)
    · rw [if_pos h5] at hf
      refine gr_iconst 0 X dX12_readChain_115 (by decide) ?_
      obtain ⟨h6, hf⟩ := gz_cke hf
      obtain ⟨M7, eM7, hf⟩ := gz_lte hf
      refine gp12_21 X wf_RX12_166 h6 eM7 dX12_readChain_116 ?_
      refine gr_goto 5 X dX12_readChain_119 (by decide) ?_
      refine gr_sub (lv' := [(0, .ref (gx_ad x 0)), (1, .int x1)]) [0, 1] rfl ?_
      exact hc5 _ _ hf
    · rw [if_neg h5] at hf
      refine gr_iconst 1 X dX12_readChain_111 (by decide) ?_
      refine gr_goto 116 X dX12_readChain_112 (by decide) ?_
      obtain ⟨h8, hf⟩ := gz_cke hf
      obtain ⟨M9, eM9, hf⟩ := gz_lte hf
      refine gp12_21 X wf_RX12_166 h8 eM9 dX12_readChain_116 ?_
      refine gr_goto 5 X dX12_readChain_119 (by decide) ?_
      refine gr_sub (lv' := [(0, .ref (gx_ad x 0)), (1, .int x1)]) [0, 1] rfl ?_
      exact hc5 _ _ hf

def f12_readChain_71 (W : Int32 → gz_M → Option gz_M) (c5 : Int32 → gz_M → Option (gz_M)) (x1 : Int32) (x2 : Int32) (x4 : Int32) (s0 : Int32) (M0 : gz_M) : Option (gz_M) := gz_lt (gz_w M0 0 22 s0) fun M1 => if (M1.1 0 21) = 0 then (f12_readChain_96 W c5 x1 x2 (M1.1 0 23) M1) else (f12_readChain_96 W c5 x1 x2 (x4 ||| (M1.1 0 23)) M1)
theorem b12_readChain_71 {x : gz_X} {n9 : Nat} {pf : Nat → Bool} {l : Launch} {M' : gz_M} (X : gz_Ok x cX12_readChain RX12 5 (8 + 3 * n9 + 2) gz_cfR pf l) (hc : gx_cells x ≤ (gx_R x).cells ∧ gx_slots x ≤ (gx_R x).slots) (hE : gz_EV x cX12_readChain M') {W : Int32 → gz_M → Option gz_M} (hW : ∀ (a0 : Int32) (M0 M1 : gz_M), W a0 M0 = some M1 → gz_CV l gz_cfR yX12_readWay cX12_readWay 5 (8 + 3 * n9) (fun ad => [.ref (ad 0), .int a0]) pf M0 M1) {c5 : Int32 → gz_M → Option (gz_M)} (hc5 : ∀ (x1 : Int32) (M0 : gz_M), c5 x1 M0 = some M' → gz_At x 5 [(0, .ref (gx_ad x 0)), (1, .int x1)] [] M0) : ∀ (x1 : Int32) (x2 : Int32) (x4 : Int32) (s0 : Int32) (M0 : gz_M), f12_readChain_71 W c5 x1 x2 x4 s0 M0 = some M' → gz_At x 71 [(0, .ref (gx_ad x 0)), (1, .int x1), (2, .int x2), (4, .int x4)] [.int s0, .ref (gx_ad x 0)] M0 := by
  intro x1 x2 x4 s0 M0  hf
  rw [f12_readChain_71] at hf
  obtain ⟨M1, eM1, hf⟩ := gz_lte hf
  refine gp12_22 X wf_RX12_170 eM1 dX12_readChain_71 ?_
  refine gr_aload_n X dX12_readChain_74 0 rfl rfl ?_
  refine gr_aload_n X dX12_readChain_75 0 rfl rfl ?_
  refine gf12_21 X wf_RX12_166 dX12_readChain_76 ?_
  refine gr_if_eq 92 X dX12_readChain_79 (by decide) (fun h2 => ?_) (fun h2 => ?_)
  · rw [if_pos h2] at hf
    refine gr_aload_n X dX12_readChain_92 0 rfl rfl ?_
    refine gf12_23 X wf_RX12_173 dX12_readChain_93 ?_
    refine gr_sub (lv' := [(0, .ref (gx_ad x 0)), (1, .int x1), (2, .int x2)]) [0, 1, 2] rfl ?_
    exact b12_readChain_96 X hc hE hW hc5 _ _ _ _ hf
  · rw [if_neg h2] at hf
    refine gr_iload X dX12_readChain_82 3 rfl ?_
    refine gr_aload_n X dX12_readChain_84 0 rfl rfl ?_
    refine gf12_23 X wf_RX12_173 dX12_readChain_85 ?_
    refine gr_ior X dX12_readChain_88 ?_
    refine gr_goto 96 X dX12_readChain_89 (by decide) ?_
    refine gr_sub (lv' := [(0, .ref (gx_ad x 0)), (1, .int x1), (2, .int x2)]) [0, 1, 2] rfl ?_
    exact b12_readChain_96 X hc hE hW hc5 _ _ _ _ hf

def f12_readChain_5 (W : Int32 → gz_M → Option gz_M) : Nat → Int32 → gz_M → Option (gz_M)
  | 0, _, _ => none
  | n + 1, x1, M0 => gz_bd2 (f12_fine M0) fun v1 M2 => if v1 = 0 then (some M2) else (gz_bd2 (f12_isPart M2) fun v5 M6 => if v5 = 0 then (some M6) else (gz_lt (M6.1 0 21) fun v9 => gz_lt (M6.1 0 22) fun v10 => gz_lt (M6.1 0 23) fun v11 => gz_bd (f12_readPart W x1 M6) fun M12 => gz_ck (gz_inb x1 8) <| gz_bd (f12_follow (M12.1 5 x1.toNatClampNeg) v11 (M12.1 0 22) M12) fun M15 => if v9 = 0 then (f12_readChain_71 W (f12_readChain_5 W n) x1 v9 v11 v10 M15) else (f12_readChain_71 W (f12_readChain_5 W n) x1 v9 v11 (v10 ||| (M15.1 0 22)) M15)))
theorem b12_readChain_5 {x : gz_X} {n9 : Nat} {pf : Nat → Bool} {l : Launch} {M' : gz_M} (X : gz_Ok x cX12_readChain RX12 5 (8 + 3 * n9 + 2) gz_cfR pf l) (hc : gx_cells x ≤ (gx_R x).cells ∧ gx_slots x ≤ (gx_R x).slots) (hE : gz_EV x cX12_readChain M') {W : Int32 → gz_M → Option gz_M} (hW : ∀ (a0 : Int32) (M0 M1 : gz_M), W a0 M0 = some M1 → gz_CV l gz_cfR yX12_readWay cX12_readWay 5 (8 + 3 * n9) (fun ad => [.ref (ad 0), .int a0]) pf M0 M1) : ∀ (n : Nat) (x1 : Int32) (M0 : gz_M), f12_readChain_5 W n x1 M0 = some M' → gz_At x 5 [(0, .ref (gx_ad x 0)), (1, .int x1)] [] M0 := by
  intro n
  induction n with
  | zero =>
    intro x1 M0  hf
    rw [f12_readChain_5] at hf
    cases hf
  | succ n ih =>
    intro x1 M0  hf
    rw [f12_readChain_5] at hf
    refine gr_aload_n X dX12_readChain_5 0 rfl rfl ?_
    obtain ⟨v1, M2, q3, hf⟩ := gz_bd2e hf
    refine gr_callI (asF := fun ad => [.ref (ad 0)]) [] X (c12_fine q3) rfl wm_RX12_146 rfl (X.kd gk_R0).1 ((X.kd gk_R0).2 _ _ _ _) rfl (by omega) (by decide) rfl (Nat.le_of_ble_eq_true rfl) hc dX12_readChain_6 ?_
    refine gr_if_eq 122 X dX12_readChain_9 (by decide) (fun h4 => ?_) (fun h4 => ?_)
    · rw [if_pos h4] at hf
      exact gz_EVu hE hf dX12_readChain_122
    · rw [if_neg h4] at hf
      refine gr_aload_n X dX12_readChain_12 0 rfl rfl ?_
      obtain ⟨v5, M6, q7, hf⟩ := gz_bd2e hf
      refine gr_callI (asF := fun ad => [.ref (ad 0)]) [] X (c12_isPart q7) rfl wm_RX12_196 rfl (X.kd gk_R0).1 ((X.kd gk_R0).2 _ _ _ _) rfl (by omega) (by decide) rfl (Nat.le_of_ble_eq_true rfl) hc dX12_readChain_13 ?_
      refine gr_if_eq 122 X dX12_readChain_16 (by decide) (fun h8 => ?_) (fun h8 => ?_)
      · rw [if_pos h8] at hf
        exact gz_EVu hE hf dX12_readChain_122
      · rw [if_neg h8] at hf
        refine gr_aload_n X dX12_readChain_19 0 rfl rfl ?_
        refine gf12_21 X wf_RX12_166 dX12_readChain_20 ?_
        obtain ⟨v9, ev9, hf⟩ := gz_lte hf
        refine gr_istore_n [(2, .int v9), (0, .ref (gx_ad x 0)), (1, .int x1)] X dX12_readChain_23 ev9 rfl (by decide) rfl ?_
        refine gr_aload_n X dX12_readChain_24 1 rfl rfl ?_
        refine gf12_22 X wf_RX12_170 dX12_readChain_25 ?_
        obtain ⟨v10, ev10, hf⟩ := gz_lte hf
        refine gr_istore_n [(3, .int v10), (2, .int v9), (0, .ref (gx_ad x 0)), (1, .int x1)] X dX12_readChain_28 ev10 rfl (by decide) rfl ?_
        refine gr_aload_n X dX12_readChain_29 2 rfl rfl ?_
        refine gf12_23 X wf_RX12_173 dX12_readChain_30 ?_
        obtain ⟨v11, ev11, hf⟩ := gz_lte hf
        refine gr_istore [(4, .int v11), (3, .int v10), (2, .int v9), (0, .ref (gx_ad x 0)), (1, .int x1)] X dX12_readChain_33 ev11 (by decide) rfl ?_
        refine gr_aload_n X dX12_readChain_35 3 rfl rfl ?_
        refine gr_iload_n X dX12_readChain_36 4 rfl rfl ?_
        obtain ⟨M12, q13, hf⟩ := gz_bde hf
        refine gr_callV (asF := fun ad => [.ref (ad 0), .int x1]) [.int x1] X (c12_readPart hW q13) rfl wm_RX12_193 rfl (X.kd gk_R0).1 ((X.kd gk_R0).2 _ _ _ _) rfl (by omega) (by decide) rfl (Nat.le_of_ble_eq_true rfl) hc dX12_readChain_37 ?_
        refine gr_aload_n X dX12_readChain_40 3 rfl rfl ?_
        refine gr_aload_n X dX12_readChain_41 3 rfl rfl ?_
        refine gf12_11 X wf_RX12_24 dX12_readChain_42 ?_
        refine gr_iload_n X dX12_readChain_45 4 rfl rfl ?_
        obtain ⟨h14, hf⟩ := gz_cke hf
        refine gr_iaload X gk_R5 (gz_inp h14) dX12_readChain_46 ?_
        refine gr_iload X dX12_readChain_47 0 rfl ?_
        refine gr_aload_n X dX12_readChain_49 3 rfl rfl ?_
        refine gf12_22 X wf_RX12_170 dX12_readChain_50 ?_
        obtain ⟨M15, q16, hf⟩ := gz_bde hf
        refine gr_callV (asF := fun ad => [.ref (ad 0), .int (M12.1 5 x1.toNatClampNeg), .int v11, .int (M12.1 0 22)]) [.int (M12.1 5 x1.toNatClampNeg), .int v11, .int (M12.1 0 22)] X (c12_follow q16) rfl wm_RX12_189 rfl (X.kd gk_R0).1 ((X.kd gk_R0).2 _ _ _ _) rfl (by omega) (by decide) rfl (Nat.le_of_ble_eq_true rfl) hc dX12_readChain_53 ?_
        refine gr_aload_n X dX12_readChain_56 3 rfl rfl ?_
        refine gr_iload_n X dX12_readChain_57 2 rfl rfl ?_
        refine gr_if_eq 70 X dX12_readChain_58 (by decide) (fun h17 => ?_) (fun h17 => ?_)
        · rw [if_pos h17] at hf
          refine gr_iload_n X dX12_readChain_70 1 rfl rfl ?_
          refine gr_sub (lv' := [(0, .ref (gx_ad x 0)), (1, .int x1), (2, .int v9), (4, .int v11)]) [3, 4, 2, 0] rfl ?_
          exact b12_readChain_71 X hc hE hW ih _ _ _ _ _ hf
        · rw [if_neg h17] at hf
          refine gr_iload_n X dX12_readChain_61 1 rfl rfl ?_
          refine gr_aload_n X dX12_readChain_62 3 rfl rfl ?_
          refine gf12_22 X wf_RX12_170 dX12_readChain_63 ?_
          refine gr_ior X dX12_readChain_66 ?_
          refine gr_goto 71 X dX12_readChain_67 (by decide) ?_
          refine gr_sub (lv' := [(0, .ref (gx_ad x 0)), (1, .int x1), (2, .int v9), (4, .int v11)]) [3, 4, 2, 0] rfl ?_
          exact b12_readChain_71 X hc hE hW ih _ _ _ _ _ hf

def f12_readChain (W : Int32 → gz_M → Option gz_M) (a0 : Int32) (M0 : gz_M) : Option (gz_M) := gz_bd (f12_readPart W a0 M0) fun M1 => f12_readChain_5 W gz_FU a0 M1
set_option maxRecDepth 100000 in
theorem c12_readChain {n9 : Nat} {pf : Nat → Bool} {l : Launch} {M0 M' : gz_M} {W : Int32 → gz_M → Option gz_M} {a0 : Int32} (hW : ∀ (a0 : Int32) (M0 M1 : gz_M), W a0 M0 = some M1 → gz_CV l gz_cfR yX12_readWay cX12_readWay 5 (8 + 3 * n9) (fun ad => [.ref (ad 0), .int a0]) pf M0 M1) (hf : f12_readChain W a0 M0 = some M') : gz_CV l gz_cfR yX12_readChain cX12_readChain 5 (8 + 3 * n9 + 2) (fun ad => [.ref (ad 0), .int a0]) pf M0 M' := by
  refine gz_ofV (by decide +kernel) (fun _ => Nat.le_of_ble_eq_true rfl) (fun x X hc hE => ?_)
  show gz_At x 0 [(0, .ref (gx_ad x 0)), (1, .int a0)] [] M0
  unfold f12_readChain at hf
  refine gr_aload_n X dX12_readChain_0 0 rfl rfl ?_
  refine gr_iload_n X dX12_readChain_1 1 rfl rfl ?_
  obtain ⟨M1, q2, hf⟩ := gz_bde hf
  refine gr_callV (asF := fun ad => [.ref (ad 0), .int a0]) [.int a0] X (c12_readPart hW q2) rfl wm_RX12_193 rfl (X.kd gk_R0).1 ((X.kd gk_R0).2 _ _ _ _) rfl (by omega) (by decide) rfl (Nat.le_of_ble_eq_true rfl) hc dX12_readChain_2 ?_
  exact b12_readChain_5 X hc hE hW _ _ _ hf

def f12_readWay1_52 (W : Int32 → gz_M → Option gz_M) (c5 : Int32 → gz_M → Option (gz_M)) (x1 : Int32) (x3 : Int32) (x4 : Int32) (s0 : Int32) (M0 : gz_M) : Option (gz_M) := gz_ck (gz_b01 s0) <| gz_lt (gz_w M0 0 21 s0) fun M2 => gz_lt (gz_w M2 0 22 ((M2.1 0 22) ||| x3)) fun M3 => gz_lt (gz_w M3 0 23 ((M3.1 0 23) ||| x4)) fun M4 => c5 x1 M4
theorem b12_readWay1_52 {x : gz_X} {n9 : Nat} {pf : Nat → Bool} {l : Launch} {M' : gz_M} (X : gz_Ok x cX12_readWay RX12 5 (8 + 3 * n9 + 3) gz_cfR pf l) (hc : gx_cells x ≤ (gx_R x).cells ∧ gx_slots x ≤ (gx_R x).slots) (hE : gz_EV x cX12_readWay M') {W : Int32 → gz_M → Option gz_M} (hW : ∀ (a0 : Int32) (M0 M1 : gz_M), W a0 M0 = some M1 → gz_CV l gz_cfR yX12_readWay cX12_readWay 5 (8 + 3 * n9) (fun ad => [.ref (ad 0), .int a0]) pf M0 M1) {c5 : Int32 → gz_M → Option (gz_M)} (hc5 : ∀ (x1 : Int32) (M0 : gz_M), c5 x1 M0 = some M' → gz_At x 5 [(0, .ref (gx_ad x 0)), (1, .int x1)] [] M0) : ∀ (x1 : Int32) (x3 : Int32) (x4 : Int32) (s0 : Int32) (M0 : gz_M), f12_readWay1_52 W c5 x1 x3 x4 s0 M0 = some M' → gz_At x 52 [(0, .ref (gx_ad x 0)), (1, .int x1), (3, .int x3), (4, .int x4)] [.int s0, .ref (gx_ad x 0)] M0 := by
  intro x1 x3 x4 s0 M0  hf
  rw [f12_readWay1_52] at hf
  obtain ⟨h1, hf⟩ := gz_cke hf
  obtain ⟨M2, eM2, hf⟩ := gz_lte hf
  refine gp12_21 X wf_RX12_166 h1 eM2 dX12_readWay_52 ?_
  refine gr_aload_n X dX12_readWay_55 0 rfl rfl ?_
  refine gr_dup X dX12_readWay_56 rfl ?_
  refine gf12_22 X wf_RX12_170 dX12_readWay_57 ?_
  refine gr_iload_n X dX12_readWay_60 2 rfl rfl ?_
  refine gr_ior X dX12_readWay_61 ?_
  obtain ⟨M3, eM3, hf⟩ := gz_lte hf
  refine gp12_22 X wf_RX12_170 eM3 dX12_readWay_62 ?_
  refine gr_aload_n X dX12_readWay_65 0 rfl rfl ?_
  refine gr_dup X dX12_readWay_66 rfl ?_
  refine gf12_23 X wf_RX12_173 dX12_readWay_67 ?_
  refine gr_iload X dX12_readWay_70 3 rfl ?_
  refine gr_ior X dX12_readWay_72 ?_
  obtain ⟨M4, eM4, hf⟩ := gz_lte hf
  refine gp12_23 X wf_RX12_173 eM4 dX12_readWay_73 ?_
  refine gr_goto 5 X dX12_readWay_76 (by decide) ?_
  refine gr_sub (lv' := [(0, .ref (gx_ad x 0)), (1, .int x1)]) [0, 1] rfl ?_
  exact hc5 _ _ hf

def f12_readWay1_5 (W : Int32 → gz_M → Option gz_M) : Nat → Int32 → gz_M → Option (gz_M)
  | 0, _, _ => none
  | n + 1, x1, M0 => gz_bd2 (f12_passes 124 M0) fun v1 M2 => if v1 = 0 then (some M2) else (gz_lt (M2.1 0 21) fun v5 => gz_lt (M2.1 0 22) fun v6 => gz_lt (M2.1 0 23) fun v7 => gz_bd (f12_readChain W x1 M2) fun M8 => if v5 = 0 then (if (M8.1 0 21) = 0 then (f12_readWay1_52 W (f12_readWay1_5 W n) x1 v6 v7 0 M8) else (f12_readWay1_52 W (f12_readWay1_5 W n) x1 v6 v7 1 M8)) else (f12_readWay1_52 W (f12_readWay1_5 W n) x1 v6 v7 1 M8))
theorem b12_readWay1_5 {x : gz_X} {n9 : Nat} {pf : Nat → Bool} {l : Launch} {M' : gz_M} (X : gz_Ok x cX12_readWay RX12 5 (8 + 3 * n9 + 3) gz_cfR pf l) (hc : gx_cells x ≤ (gx_R x).cells ∧ gx_slots x ≤ (gx_R x).slots) (hE : gz_EV x cX12_readWay M') {W : Int32 → gz_M → Option gz_M} (hW : ∀ (a0 : Int32) (M0 M1 : gz_M), W a0 M0 = some M1 → gz_CV l gz_cfR yX12_readWay cX12_readWay 5 (8 + 3 * n9) (fun ad => [.ref (ad 0), .int a0]) pf M0 M1) : ∀ (n : Nat) (x1 : Int32) (M0 : gz_M), f12_readWay1_5 W n x1 M0 = some M' → gz_At x 5 [(0, .ref (gx_ad x 0)), (1, .int x1)] [] M0 := by
  intro n
  induction n with
  | zero =>
    intro x1 M0  hf
    rw [f12_readWay1_5] at hf
    cases hf
  | succ n ih =>
    intro x1 M0  hf
    rw [f12_readWay1_5] at hf
    refine gr_aload_n X dX12_readWay_5 0 rfl rfl ?_
    refine gr_bipush 124 X dX12_readWay_6 (by decide) ?_
    obtain ⟨v1, M2, q3, hf⟩ := gz_bd2e hf
    refine gr_callI (asF := fun ad => [.ref (ad 0), .int 124]) [.int 124] X (c12_passes q3) rfl wm_RX12_154 rfl (X.kd gk_R0).1 ((X.kd gk_R0).2 _ _ _ _) rfl (by omega) (by decide) rfl (Nat.le_of_ble_eq_true rfl) hc dX12_readWay_8 ?_
    refine gr_if_eq 79 X dX12_readWay_11 (by decide) (fun h4 => ?_) (fun h4 => ?_)
    · rw [if_pos h4] at hf
      exact gz_EVu hE hf dX12_readWay_79
    · rw [if_neg h4] at hf
      refine gr_aload_n X dX12_readWay_14 0 rfl rfl ?_
      refine gf12_21 X wf_RX12_166 dX12_readWay_15 ?_
      obtain ⟨v5, ev5, hf⟩ := gz_lte hf
      refine gr_istore_n [(2, .int v5), (0, .ref (gx_ad x 0)), (1, .int x1)] X dX12_readWay_18 ev5 rfl (by decide) rfl ?_
      refine gr_aload_n X dX12_readWay_19 1 rfl rfl ?_
      refine gf12_22 X wf_RX12_170 dX12_readWay_20 ?_
      obtain ⟨v6, ev6, hf⟩ := gz_lte hf
      refine gr_istore_n [(3, .int v6), (2, .int v5), (0, .ref (gx_ad x 0)), (1, .int x1)] X dX12_readWay_23 ev6 rfl (by decide) rfl ?_
      refine gr_aload_n X dX12_readWay_24 2 rfl rfl ?_
      refine gf12_23 X wf_RX12_173 dX12_readWay_25 ?_
      obtain ⟨v7, ev7, hf⟩ := gz_lte hf
      refine gr_istore [(4, .int v7), (3, .int v6), (2, .int v5), (0, .ref (gx_ad x 0)), (1, .int x1)] X dX12_readWay_28 ev7 (by decide) rfl ?_
      refine gr_aload_n X dX12_readWay_30 3 rfl rfl ?_
      refine gr_iload_n X dX12_readWay_31 4 rfl rfl ?_
      obtain ⟨M8, q9, hf⟩ := gz_bde hf
      refine gr_callV (asF := fun ad => [.ref (ad 0), .int x1]) [.int x1] X (c12_readChain hW q9) rfl wm_RX12_199 rfl (X.kd gk_R0).1 ((X.kd gk_R0).2 _ _ _ _) rfl (by omega) (by decide) rfl (Nat.le_of_ble_eq_true rfl) hc dX12_readWay_32 ?_
      refine gr_aload_n X dX12_readWay_35 3 rfl rfl ?_
      refine gr_iload_n X dX12_readWay_36 2 rfl rfl ?_
      refine gr_if_ne 47 X dX12_readWay_37 (by decide) (fun h10 => ?_) (fun h10 => ?_)
      · rw [if_pos h10] at hf
        refine gr_aload_n X dX12_readWay_40 3 rfl rfl ?_
        refine gf12_21 X wf_RX12_166 dX12_readWay_41 ?_
        refine gr_if_eq 51 X dX12_readWay_44 (by decide) (fun h11 => ?_) (fun h11 => ?_)
        · rw [if_pos h11] at hf
          refine gr_iconst 0 X dX12_readWay_51 (by decide) ?_
          refine gr_sub (lv' := [(0, .ref (gx_ad x 0)), (1, .int x1), (3, .int v6), (4, .int v7)]) [3, 4, 1, 0] rfl ?_
          exact b12_readWay1_52 X hc hE hW ih _ _ _ _ _ hf
        · rw [if_neg h11] at hf
          refine gr_iconst 1 X dX12_readWay_47 (by decide) ?_
          refine gr_goto 52 X dX12_readWay_48 (by decide) ?_
          refine gr_sub (lv' := [(0, .ref (gx_ad x 0)), (1, .int x1), (3, .int v6), (4, .int v7)]) [3, 4, 1, 0] rfl ?_
          exact b12_readWay1_52 X hc hE hW ih _ _ _ _ _ hf
      · rw [if_neg h10] at hf
        refine gr_iconst 1 X dX12_readWay_47 (by decide) ?_
        refine gr_goto 52 X dX12_readWay_48 (by decide) ?_
        refine gr_sub (lv' := [(0, .ref (gx_ad x 0)), (1, .int x1), (3, .int v6), (4, .int v7)]) [3, 4, 1, 0] rfl ?_
        exact b12_readWay1_52 X hc hE hW ih _ _ _ _ _ hf

def f12_readWay1 (W : Int32 → gz_M → Option gz_M) (a0 : Int32) (M0 : gz_M) : Option (gz_M) := gz_bd (f12_readChain W a0 M0) fun M1 => f12_readWay1_5 W gz_FU a0 M1
set_option maxRecDepth 100000 in
theorem c12_readWay1 {n9 : Nat} {pf : Nat → Bool} {l : Launch} {M0 M' : gz_M} {W : Int32 → gz_M → Option gz_M} {a0 : Int32} (hW : ∀ (a0 : Int32) (M0 M1 : gz_M), W a0 M0 = some M1 → gz_CV l gz_cfR yX12_readWay cX12_readWay 5 (8 + 3 * n9) (fun ad => [.ref (ad 0), .int a0]) pf M0 M1) (hf : f12_readWay1 W a0 M0 = some M') : gz_CV l gz_cfR yX12_readWay cX12_readWay 5 (8 + 3 * n9 + 3) (fun ad => [.ref (ad 0), .int a0]) pf M0 M' := by
  refine gz_ofV (by decide +kernel) (fun _ => Nat.le_of_ble_eq_true rfl) (fun x X hc hE => ?_)
  show gz_At x 0 [(0, .ref (gx_ad x 0)), (1, .int a0)] [] M0
  unfold f12_readWay1 at hf
  refine gr_aload_n X dX12_readWay_0 0 rfl rfl ?_
  refine gr_iload_n X dX12_readWay_1 1 rfl rfl ?_
  obtain ⟨M1, q2, hf⟩ := gz_bde hf
  refine gr_callV (asF := fun ad => [.ref (ad 0), .int a0]) [.int a0] X (c12_readChain hW q2) rfl wm_RX12_199 rfl (X.kd gk_R0).1 ((X.kd gk_R0).2 _ _ _ _) rfl (by omega) (by decide) rfl (Nat.le_of_ble_eq_true rfl) hc dX12_readWay_2 ?_
  exact b12_readWay1_5 X hc hE hW _ _ _ hf
def f12_readWay : Nat → Int32 → gz_M → Option gz_M
  | 0 => fun _ _ => none
  | n + 1 => f12_readWay1 (f12_readWay n)
theorem c12_readWay {pf : Nat → Bool} {l : Launch} : ∀ (n : Nat) {a0 : Int32} {M0 M1 : gz_M}, f12_readWay n a0 M0 = some M1 → gz_CV l gz_cfR yX12_readWay cX12_readWay 5 (8 + 3 * n) (fun ad => [.ref (ad 0), .int a0]) pf M0 M1
  | 0, a0, M0, M1, h => by cases h
  | n + 1, a0, M0, M1, h => c12_readWay1 (n9 := n) (fun a M M' q => c12_readWay n q) h

def f12_readRule_127 (x1 : Int32) (s0 : Int32) (s1 : Int32) (M0 : gz_M) : Option (gz_M) := gz_ck (gz_inb s1 8) <| gz_lt (gz_w M0 7 s1.toNatClampNeg s0) fun M2 => gz_ck (gz_inb x1 8) <| if (M2.1 7 x1.toNatClampNeg) ≤ 1 then (gz_ck (gz_inb x1 8) <| gz_lt (gz_w M2 8 x1.toNatClampNeg (-1)) fun M6 => some M6) else (gz_bd2 (f12_oneOf 48 4 M2) fun v7 M8 => gz_ck (gz_inb x1 8) <| gz_lt (gz_w M8 8 x1.toNatClampNeg v7) fun M11 => some M11)
theorem b12_readRule_127 {x : gz_X} {pf : Nat → Bool} {l : Launch} {M' : gz_M} (X : gz_Ok x cX12_readRule RX12 2 33 gz_cfR pf l) (hc : gx_cells x ≤ (gx_R x).cells ∧ gx_slots x ≤ (gx_R x).slots) (hE : gz_EV x cX12_readRule M') : ∀ (x1 : Int32) (s0 : Int32) (s1 : Int32) (M0 : gz_M), f12_readRule_127 x1 s0 s1 M0 = some M' → gz_At x 127 [(0, .ref (gx_ad x 0)), (1, .int x1)] [.int s0, .int s1, .ref (gx_ad x 7)] M0 := by
  intro x1 s0 s1 M0  hf
  rw [f12_readRule_127] at hf
  obtain ⟨h1, hf⟩ := gz_cke hf
  obtain ⟨M2, eM2, hf⟩ := gz_lte hf
  refine gr_iastore X gk_R7 (gz_inp h1) eM2 dX12_readRule_127 ?_
  refine gr_aload_n X dX12_readRule_128 0 rfl rfl ?_
  refine gf12_14 X wf_RX12_33 dX12_readRule_129 ?_
  refine gr_iload_n X dX12_readRule_132 1 rfl rfl ?_
  refine gr_aload_n X dX12_readRule_133 0 rfl rfl ?_
  refine gf12_13 X wf_RX12_30 dX12_readRule_134 ?_
  refine gr_iload_n X dX12_readRule_137 1 rfl rfl ?_
  obtain ⟨h3, hf⟩ := gz_cke hf
  refine gr_iaload X gk_R7 (gz_inp h3) dX12_readRule_138 ?_
  refine gr_iconst 1 X dX12_readRule_139 (by decide) ?_
  refine gr_icmp_le 153 X dX12_readRule_140 (by decide) (fun h4 => ?_) (fun h4 => ?_)
  · rw [if_pos h4] at hf
    refine gr_iconst (-1) X dX12_readRule_153 (by decide) ?_
    obtain ⟨h5, hf⟩ := gz_cke hf
    obtain ⟨M6, eM6, hf⟩ := gz_lte hf
    refine gr_iastore X gk_R8 (gz_inp h5) eM6 dX12_readRule_154 ?_
    exact gz_EVu hE hf dX12_readRule_155
  · rw [if_neg h4] at hf
    refine gr_aload_n X dX12_readRule_143 0 rfl rfl ?_
    refine gr_bipush 48 X dX12_readRule_144 (by decide) ?_
    refine gr_iconst 4 X dX12_readRule_146 (by decide) ?_
    obtain ⟨v7, M8, q9, hf⟩ := gz_bd2e hf
    refine gr_callI (asF := fun ad => [.ref (ad 0), .int 48, .int 4]) [.int 48, .int 4] X (c12_oneOf q9) rfl wm_RX12_162 rfl (X.kd gk_R0).1 ((X.kd gk_R0).2 _ _ _ _) rfl (by decide) (by decide) rfl (Nat.le_of_ble_eq_true rfl) hc dX12_readRule_147 ?_
    refine gr_goto 154 X dX12_readRule_150 (by decide) ?_
    obtain ⟨h10, hf⟩ := gz_cke hf
    obtain ⟨M11, eM11, hf⟩ := gz_lte hf
    refine gr_iastore X gk_R8 (gz_inp h10) eM11 dX12_readRule_154 ?_
    exact gz_EVu hE hf dX12_readRule_155

def f12_readRule (a0 : Int32) (M0 : gz_M) : Option (gz_M) := gz_bd2 (f12_oneOf 48 4 M0) fun v1 M2 => gz_ck (gz_inb a0 8) <| gz_lt (gz_w M2 5 a0.toNatClampNeg v1) fun M5 => gz_bd (f12_need 58 M5) fun M6 => gz_bd2 (f12_fine M6) fun v8 M9 => if v8 = 0 then (some M9) else (gz_ck (gz_inb a0 8) <| gz_lt (gz_w M9 6 a0.toNatClampNeg 0) fun M13 => gz_lt (gz_w M13 0 24 0) fun M14 => gz_bd (f12_readWay 8 a0 M14) fun M15 => gz_bd2 (f12_fine M15) fun v17 M18 => if v17 = 0 then (some M18) else (gz_ck (gz_inb a0 8) <| gz_lt (gz_w M18 9 a0.toNatClampNeg (vp_nar .boolean (M18.1 0 21))) fun M22 => gz_ck (gz_inb a0 8) <| gz_lt (gz_w M22 10 a0.toNatClampNeg (M22.1 0 22)) fun M24 => gz_ck (gz_inb a0 8) <| gz_lt (gz_w M24 11 a0.toNatClampNeg (M24.1 0 23)) fun M26 => gz_bd2 (f12_passes 60 M26) fun v27 M28 => if v27 = 0 then (gz_bd2 (f12_passes 62 M28) fun v31 M32 => if v31 = 0 then (gz_bd2 (f12_passes 61 M32) fun v35 M36 => if v35 = 0 then (f12_readRule_127 a0 0 a0 M36) else (f12_readRule_127 a0 3 a0 M36)) else (f12_readRule_127 a0 2 a0 M32)) else (f12_readRule_127 a0 1 a0 M28)))
set_option maxRecDepth 100000 in
theorem c12_readRule {pf : Nat → Bool} {l : Launch} {M0 M' : gz_M} {a0 : Int32} (hf : f12_readRule a0 M0 = some M') : gz_CV l gz_cfR yX12_readRule cX12_readRule 2 33 (fun ad => [.ref (ad 0), .int a0]) pf M0 M' := by
  refine gz_ofV (by decide +kernel) (fun _ => Nat.le_of_ble_eq_true rfl) (fun x X hc hE => ?_)
  show gz_At x 0 [(0, .ref (gx_ad x 0)), (1, .int a0)] [] M0
  unfold f12_readRule at hf
  refine gr_aload_n X dX12_readRule_0 0 rfl rfl ?_
  refine gf12_11 X wf_RX12_24 dX12_readRule_1 ?_
  refine gr_iload_n X dX12_readRule_4 1 rfl rfl ?_
  refine gr_aload_n X dX12_readRule_5 0 rfl rfl ?_
  refine gr_bipush 48 X dX12_readRule_6 (by decide) ?_
  refine gr_iconst 4 X dX12_readRule_8 (by decide) ?_
  obtain ⟨v1, M2, q3, hf⟩ := gz_bd2e hf
  refine gr_callI (asF := fun ad => [.ref (ad 0), .int 48, .int 4]) [.int 48, .int 4] X (c12_oneOf q3) rfl wm_RX12_162 rfl (X.kd gk_R0).1 ((X.kd gk_R0).2 _ _ _ _) rfl (by decide) (by decide) rfl (Nat.le_of_ble_eq_true rfl) hc dX12_readRule_9 ?_
  obtain ⟨h4, hf⟩ := gz_cke hf
  obtain ⟨M5, eM5, hf⟩ := gz_lte hf
  refine gr_iastore X gk_R5 (gz_inp h4) eM5 dX12_readRule_12 ?_
  refine gr_aload_n X dX12_readRule_13 0 rfl rfl ?_
  refine gr_bipush 58 X dX12_readRule_14 (by decide) ?_
  obtain ⟨M6, q7, hf⟩ := gz_bde hf
  refine gr_callV (asF := fun ad => [.ref (ad 0), .int 58]) [.int 58] X (c12_need q7) rfl wm_RX12_182 rfl (X.kd gk_R0).1 ((X.kd gk_R0).2 _ _ _ _) rfl (by decide) (by decide) rfl (Nat.le_of_ble_eq_true rfl) hc dX12_readRule_16 ?_
  refine gr_aload_n X dX12_readRule_19 0 rfl rfl ?_
  obtain ⟨v8, M9, q10, hf⟩ := gz_bd2e hf
  refine gr_callI (asF := fun ad => [.ref (ad 0)]) [] X (c12_fine q10) rfl wm_RX12_146 rfl (X.kd gk_R0).1 ((X.kd gk_R0).2 _ _ _ _) rfl (by decide) (by decide) rfl (Nat.le_of_ble_eq_true rfl) hc dX12_readRule_20 ?_
  refine gr_if_ne 27 X dX12_readRule_23 (by decide) (fun h11 => ?_) (fun h11 => ?_)
  · rw [if_pos h11] at hf
    exact gz_EVu hE hf dX12_readRule_26
  · rw [if_neg h11] at hf
    refine gr_aload_n X dX12_readRule_27 0 rfl rfl ?_
    refine gf12_12 X wf_RX12_27 dX12_readRule_28 ?_
    refine gr_iload_n X dX12_readRule_31 1 rfl rfl ?_
    refine gr_iconst 0 X dX12_readRule_32 (by decide) ?_
    obtain ⟨h12, hf⟩ := gz_cke hf
    obtain ⟨M13, eM13, hf⟩ := gz_lte hf
    refine gr_iastore X gk_R6 (gz_inp h12) eM13 dX12_readRule_33 ?_
    refine gr_aload_n X dX12_readRule_34 0 rfl rfl ?_
    refine gr_iconst 0 X dX12_readRule_35 (by decide) ?_
    obtain ⟨M14, eM14, hf⟩ := gz_lte hf
    refine gp12_24 X wf_RX12_179 eM14 dX12_readRule_36 ?_
    refine gr_aload_n X dX12_readRule_39 0 rfl rfl ?_
    refine gr_iload_n X dX12_readRule_40 1 rfl rfl ?_
    obtain ⟨M15, q16, hf⟩ := gz_bde hf
    refine gr_callV (asF := fun ad => [.ref (ad 0), .int a0]) [.int a0] X (c12_readWay 8 q16) rfl wm_RX12_186 rfl (X.kd gk_R0).1 ((X.kd gk_R0).2 _ _ _ _) rfl (by decide) (by decide) rfl (Nat.le_of_ble_eq_true rfl) hc dX12_readRule_41 ?_
    refine gr_aload_n X dX12_readRule_44 0 rfl rfl ?_
    obtain ⟨v17, M18, q19, hf⟩ := gz_bd2e hf
    refine gr_callI (asF := fun ad => [.ref (ad 0)]) [] X (c12_fine q19) rfl wm_RX12_146 rfl (X.kd gk_R0).1 ((X.kd gk_R0).2 _ _ _ _) rfl (by decide) (by decide) rfl (Nat.le_of_ble_eq_true rfl) hc dX12_readRule_45 ?_
    refine gr_if_ne 52 X dX12_readRule_48 (by decide) (fun h20 => ?_) (fun h20 => ?_)
    · rw [if_pos h20] at hf
      exact gz_EVu hE hf dX12_readRule_51
    · rw [if_neg h20] at hf
      refine gr_aload_n X dX12_readRule_52 0 rfl rfl ?_
      refine gf12_15 X wf_RX12_36 dX12_readRule_53 ?_
      refine gr_iload_n X dX12_readRule_56 1 rfl rfl ?_
      refine gr_aload_n X dX12_readRule_57 0 rfl rfl ?_
      refine gf12_21 X wf_RX12_166 dX12_readRule_58 ?_
      obtain ⟨h21, hf⟩ := gz_cke hf
      obtain ⟨M22, eM22, hf⟩ := gz_lte hf
      refine gr_zastore X gk_R9 (gz_inp h21) eM22 dX12_readRule_61 ?_
      refine gr_aload_n X dX12_readRule_62 0 rfl rfl ?_
      refine gf12_16 X wf_RX12_40 dX12_readRule_63 ?_
      refine gr_iload_n X dX12_readRule_66 1 rfl rfl ?_
      refine gr_aload_n X dX12_readRule_67 0 rfl rfl ?_
      refine gf12_22 X wf_RX12_170 dX12_readRule_68 ?_
      obtain ⟨h23, hf⟩ := gz_cke hf
      obtain ⟨M24, eM24, hf⟩ := gz_lte hf
      refine gr_iastore X gk_R10 (gz_inp h23) eM24 dX12_readRule_71 ?_
      refine gr_aload_n X dX12_readRule_72 0 rfl rfl ?_
      refine gf12_17 X wf_RX12_43 dX12_readRule_73 ?_
      refine gr_iload_n X dX12_readRule_76 1 rfl rfl ?_
      refine gr_aload_n X dX12_readRule_77 0 rfl rfl ?_
      refine gf12_23 X wf_RX12_173 dX12_readRule_78 ?_
      obtain ⟨h25, hf⟩ := gz_cke hf
      obtain ⟨M26, eM26, hf⟩ := gz_lte hf
      refine gr_iastore X gk_R11 (gz_inp h25) eM26 dX12_readRule_81 ?_
      refine gr_aload_n X dX12_readRule_82 0 rfl rfl ?_
      refine gf12_13 X wf_RX12_30 dX12_readRule_83 ?_
      refine gr_iload_n X dX12_readRule_86 1 rfl rfl ?_
      refine gr_aload_n X dX12_readRule_87 0 rfl rfl ?_
      refine gr_bipush 60 X dX12_readRule_88 (by decide) ?_
      obtain ⟨v27, M28, q29, hf⟩ := gz_bd2e hf
      refine gr_callI (asF := fun ad => [.ref (ad 0), .int 60]) [.int 60] X (c12_passes q29) rfl wm_RX12_154 rfl (X.kd gk_R0).1 ((X.kd gk_R0).2 _ _ _ _) rfl (by decide) (by decide) rfl (Nat.le_of_ble_eq_true rfl) hc dX12_readRule_90 ?_
      refine gr_if_eq 100 X dX12_readRule_93 (by decide) (fun h30 => ?_) (fun h30 => ?_)
      · rw [if_pos h30] at hf
        refine gr_aload_n X dX12_readRule_100 0 rfl rfl ?_
        refine gr_bipush 62 X dX12_readRule_101 (by decide) ?_
        obtain ⟨v31, M32, q33, hf⟩ := gz_bd2e hf
        refine gr_callI (asF := fun ad => [.ref (ad 0), .int 62]) [.int 62] X (c12_passes q33) rfl wm_RX12_154 rfl (X.kd gk_R0).1 ((X.kd gk_R0).2 _ _ _ _) rfl (by decide) (by decide) rfl (Nat.le_of_ble_eq_true rfl) hc dX12_readRule_103 ?_
        refine gr_if_eq 113 X dX12_readRule_106 (by decide) (fun h34 => ?_) (fun h34 => ?_)
        · rw [if_pos h34] at hf
          refine gr_aload_n X dX12_readRule_113 0 rfl rfl ?_
          refine gr_bipush 61 X dX12_readRule_114 (by decide) ?_
          obtain ⟨v35, M36, q37, hf⟩ := gz_bd2e hf
          refine gr_callI (asF := fun ad => [.ref (ad 0), .int 61]) [.int 61] X (c12_passes q37) rfl wm_RX12_154 rfl (X.kd gk_R0).1 ((X.kd gk_R0).2 _ _ _ _) rfl (by decide) (by decide) rfl (Nat.le_of_ble_eq_true rfl) hc dX12_readRule_116 ?_
          refine gr_if_eq 126 X dX12_readRule_119 (by decide) (fun h38 => ?_) (fun h38 => ?_)
          · rw [if_pos h38] at hf
            refine gr_iconst 0 X dX12_readRule_126 (by decide) ?_
            exact b12_readRule_127 X hc hE _ _ _ _ hf
          · rw [if_neg h38] at hf
            refine gr_iconst 3 X dX12_readRule_122 (by decide) ?_
            refine gr_goto 127 X dX12_readRule_123 (by decide) ?_
            exact b12_readRule_127 X hc hE _ _ _ _ hf
        · rw [if_neg h34] at hf
          refine gr_iconst 2 X dX12_readRule_109 (by decide) ?_
          refine gr_goto 127 X dX12_readRule_110 (by decide) ?_
          exact b12_readRule_127 X hc hE _ _ _ _ hf
      · rw [if_neg h30] at hf
        refine gr_iconst 1 X dX12_readRule_96 (by decide) ?_
        refine gr_goto 127 X dX12_readRule_97 (by decide) ?_
        exact b12_readRule_127 X hc hE _ _ _ _ hf

def f12_readRules_126 (M0 : gz_M) : Option (Int32 × gz_M) := gz_bd2 (f12_wasRight M0) fun v1 M2 => gz_ck (gz_b01 v1) <| some (v1, M2)
theorem b12_readRules_126 {x : gz_X} {pf : Nat → Bool} {l : Launch} {r : Int32} {M' : gz_M} (X : gz_Ok x cX12_readRules RX12 2 34 gz_cfR pf l) (hc : gx_cells x ≤ (gx_R x).cells ∧ gx_slots x ≤ (gx_R x).slots) (hE : gz_EI x cX12_readRules .boolean r M') : ∀ (M0 : gz_M), f12_readRules_126 M0 = some (r, M') → gz_At x 126 [(0, .ref (gx_ad x 0))] [] M0 := by
  intro  M0  hf
  rw [f12_readRules_126] at hf
  refine gr_aload_n X dX12_readRules_126 0 rfl rfl ?_
  obtain ⟨v1, M2, q3, hf⟩ := gz_bd2e hf
  refine gr_callI (asF := fun ad => [.ref (ad 0)]) [] X (c12_wasRight q3) rfl wm_RX12_208 rfl (X.kd gk_R0).1 ((X.kd gk_R0).2 _ _ _ _) rfl (by decide) (by decide) rfl (Nat.le_of_ble_eq_true rfl) hc dX12_readRules_127 ?_
  obtain ⟨h4, hf⟩ := gz_cke hf
  exact gz_EIu hE hf (gz_nb01 h4).1 dX12_readRules_130

def f12_readRules_88 (c38 : Int32 → gz_M → Option (Int32 × gz_M)) (s0 : Int32) (M0 : gz_M) : Option (Int32 × gz_M) := if s0 = 0 then (c38 s0 M0) else (if (M0.1 0 10) = 8 then (gz_bd (f12_fault (M0.1 0 8) M0) fun M3 => gz_lt (gz_w M3 0 8 ((M3.1 0 8) + 1)) fun M5 => c38 s0 M5) else (gz_lt (gz_w M0 0 8 ((M0.1 0 8) + 1)) fun M6 => c38 s0 M6))
theorem b12_readRules_88 {x : gz_X} {pf : Nat → Bool} {l : Launch} {r : Int32} {M' : gz_M} (X : gz_Ok x cX12_readRules RX12 2 34 gz_cfR pf l) (hc : gx_cells x ≤ (gx_R x).cells ∧ gx_slots x ≤ (gx_R x).slots) (hE : gz_EI x cX12_readRules .boolean r M') {c38 : Int32 → gz_M → Option (Int32 × gz_M)} (hc38 : ∀ (x1 : Int32) (M0 : gz_M), c38 x1 M0 = some (r, M') → gz_At x 38 [(0, .ref (gx_ad x 0)), (1, .int x1)] [] M0) : ∀ (s0 : Int32) (M0 : gz_M), f12_readRules_88 c38 s0 M0 = some (r, M') → gz_At x 88 [(0, .ref (gx_ad x 0))] [.int s0] M0 := by
  intro s0 M0  hf
  rw [f12_readRules_88] at hf
  refine gr_istore_n [(1, .int s0), (0, .ref (gx_ad x 0))] X dX12_readRules_88 rfl rfl (by decide) rfl ?_
  refine gr_iload_n X dX12_readRules_89 0 rfl rfl ?_
  refine gr_if_ne 96 X dX12_readRules_90 (by decide) (fun h1 => ?_) (fun h1 => ?_)
  · rw [if_pos h1] at hf
    refine gr_goto 38 X dX12_readRules_93 (by decide) ?_
    refine gr_sub (lv' := [(0, .ref (gx_ad x 0)), (1, .int s0)]) [1, 0] rfl ?_
    exact hc38 _ _ hf
  · rw [if_neg h1] at hf
    refine gr_aload_n X dX12_readRules_96 1 rfl rfl ?_
    refine gf12_10 X wf_RX12_202 dX12_readRules_97 ?_
    refine gr_bipush 8 X dX12_readRules_100 (by decide) ?_
    refine gr_icmp_ne 113 X dX12_readRules_102 (by decide) (fun h2 => ?_) (fun h2 => ?_)
    · rw [if_pos h2] at hf
      refine gr_aload_n X dX12_readRules_105 1 rfl rfl ?_
      refine gr_aload_n X dX12_readRules_106 1 rfl rfl ?_
      refine gf12_8 X wf_RX12_140 dX12_readRules_107 ?_
      obtain ⟨M3, q4, hf⟩ := gz_bde hf
      refine gr_callV (asF := fun ad => [.ref (ad 0), .int (M0.1 0 8)]) [.int (M0.1 0 8)] X (c12_fault q4) rfl wm_RX12_158 rfl (X.kd gk_R0).1 ((X.kd gk_R0).2 _ _ _ _) rfl (by decide) (by decide) rfl (Nat.le_of_ble_eq_true rfl) hc dX12_readRules_110 ?_
      refine gr_aload_n X dX12_readRules_113 1 rfl rfl ?_
      refine gr_dup X dX12_readRules_114 rfl ?_
      refine gf12_8 X wf_RX12_140 dX12_readRules_115 ?_
      refine gr_iconst 1 X dX12_readRules_118 (by decide) ?_
      refine gr_iadd X dX12_readRules_119 ?_
      obtain ⟨M5, eM5, hf⟩ := gz_lte hf
      refine gp12_8 X wf_RX12_140 eM5 dX12_readRules_120 ?_
      refine gr_goto 38 X dX12_readRules_123 (by decide) ?_
      refine gr_sub (lv' := [(0, .ref (gx_ad x 0)), (1, .int s0)]) [1, 0] rfl ?_
      exact hc38 _ _ hf
    · rw [if_neg h2] at hf
      refine gr_aload_n X dX12_readRules_113 1 rfl rfl ?_
      refine gr_dup X dX12_readRules_114 rfl ?_
      refine gf12_8 X wf_RX12_140 dX12_readRules_115 ?_
      refine gr_iconst 1 X dX12_readRules_118 (by decide) ?_
      refine gr_iadd X dX12_readRules_119 ?_
      obtain ⟨M6, eM6, hf⟩ := gz_lte hf
      refine gp12_8 X wf_RX12_140 eM6 dX12_readRules_120 ?_
      refine gr_goto 38 X dX12_readRules_123 (by decide) ?_
      refine gr_sub (lv' := [(0, .ref (gx_ad x 0)), (1, .int s0)]) [1, 0] rfl ?_
      exact hc38 _ _ hf

def f12_readRules_38 : Nat → Int32 → gz_M → Option (Int32 × gz_M)
  | 0, _, _ => none
  | n + 1, x1, M0 => if x1 = 0 then (f12_readRules_126 M0) else (gz_bd2 (f12_fine M0) fun v2 M3 => if v2 = 0 then (f12_readRules_126 M3) else (gz_bd (f12_readRule (M3.1 0 10) M3) fun M6 => gz_lt (gz_w M6 0 10 ((M6.1 0 10) + 1)) fun M8 => gz_bd2 (f12_fine M8) fun v9 M10 => if v9 = 0 then (f12_readRules_88 (f12_readRules_38 n) 0 M10) else (gz_bd2 (f12_here M10) fun v13 M14 => if v13 = 59 then (f12_readRules_88 (f12_readRules_38 n) 1 M14) else (f12_readRules_88 (f12_readRules_38 n) 0 M14))))
theorem b12_readRules_38 {x : gz_X} {pf : Nat → Bool} {l : Launch} {r : Int32} {M' : gz_M} (X : gz_Ok x cX12_readRules RX12 2 34 gz_cfR pf l) (hc : gx_cells x ≤ (gx_R x).cells ∧ gx_slots x ≤ (gx_R x).slots) (hE : gz_EI x cX12_readRules .boolean r M') : ∀ (n : Nat) (x1 : Int32) (M0 : gz_M), f12_readRules_38 n x1 M0 = some (r, M') → gz_At x 38 [(0, .ref (gx_ad x 0)), (1, .int x1)] [] M0 := by
  intro n
  induction n with
  | zero =>
    intro x1 M0  hf
    rw [f12_readRules_38] at hf
    cases hf
  | succ n ih =>
    intro x1 M0  hf
    rw [f12_readRules_38] at hf
    refine gr_iload_n X dX12_readRules_38 1 rfl rfl ?_
    refine gr_if_eq 126 X dX12_readRules_39 (by decide) (fun h1 => ?_) (fun h1 => ?_)
    · rw [if_pos h1] at hf
      refine gr_sub (lv' := [(0, .ref (gx_ad x 0))]) [0] rfl ?_
      exact b12_readRules_126 X hc hE  _ hf
    · rw [if_neg h1] at hf
      refine gr_aload_n X dX12_readRules_42 0 rfl rfl ?_
      obtain ⟨v2, M3, q4, hf⟩ := gz_bd2e hf
      refine gr_callI (asF := fun ad => [.ref (ad 0)]) [] X (c12_fine q4) rfl wm_RX12_146 rfl (X.kd gk_R0).1 ((X.kd gk_R0).2 _ _ _ _) rfl (by decide) (by decide) rfl (Nat.le_of_ble_eq_true rfl) hc dX12_readRules_43 ?_
      refine gr_if_eq 126 X dX12_readRules_46 (by decide) (fun h5 => ?_) (fun h5 => ?_)
      · rw [if_pos h5] at hf
        refine gr_sub (lv' := [(0, .ref (gx_ad x 0))]) [0] rfl ?_
        exact b12_readRules_126 X hc hE  _ hf
      · rw [if_neg h5] at hf
        refine gr_aload_n X dX12_readRules_49 0 rfl rfl ?_
        refine gr_aload_n X dX12_readRules_50 0 rfl rfl ?_
        refine gf12_10 X wf_RX12_202 dX12_readRules_51 ?_
        obtain ⟨M6, q7, hf⟩ := gz_bde hf
        refine gr_callV (asF := fun ad => [.ref (ad 0), .int (M3.1 0 10)]) [.int (M3.1 0 10)] X (c12_readRule q7) rfl wm_RX12_205 rfl (X.kd gk_R0).1 ((X.kd gk_R0).2 _ _ _ _) rfl (by decide) (by decide) rfl (Nat.le_of_ble_eq_true rfl) hc dX12_readRules_54 ?_
        refine gr_aload_n X dX12_readRules_57 0 rfl rfl ?_
        refine gr_dup X dX12_readRules_58 rfl ?_
        refine gf12_10 X wf_RX12_202 dX12_readRules_59 ?_
        refine gr_iconst 1 X dX12_readRules_62 (by decide) ?_
        refine gr_iadd X dX12_readRules_63 ?_
        obtain ⟨M8, eM8, hf⟩ := gz_lte hf
        refine gp12_10 X wf_RX12_202 eM8 dX12_readRules_64 ?_
        refine gr_aload_n X dX12_readRules_67 0 rfl rfl ?_
        obtain ⟨v9, M10, q11, hf⟩ := gz_bd2e hf
        refine gr_callI (asF := fun ad => [.ref (ad 0)]) [] X (c12_fine q11) rfl wm_RX12_146 rfl (X.kd gk_R0).1 ((X.kd gk_R0).2 _ _ _ _) rfl (by decide) (by decide) rfl (Nat.le_of_ble_eq_true rfl) hc dX12_readRules_68 ?_
        refine gr_if_eq 87 X dX12_readRules_71 (by decide) (fun h12 => ?_) (fun h12 => ?_)
        · rw [if_pos h12] at hf
          refine gr_iconst 0 X dX12_readRules_87 (by decide) ?_
          refine gr_sub (lv' := [(0, .ref (gx_ad x 0))]) [0] rfl ?_
          exact b12_readRules_88 X hc hE ih _ _ hf
        · rw [if_neg h12] at hf
          refine gr_aload_n X dX12_readRules_74 0 rfl rfl ?_
          obtain ⟨v13, M14, q15, hf⟩ := gz_bd2e hf
          refine gr_callI (asF := fun ad => [.ref (ad 0)]) [] X (c12_here q15) rfl wm_RX12_150 rfl (X.kd gk_R0).1 ((X.kd gk_R0).2 _ _ _ _) rfl (by decide) (by decide) rfl (Nat.le_of_ble_eq_true rfl) hc dX12_readRules_75 ?_
          refine gr_bipush 59 X dX12_readRules_78 (by decide) ?_
          refine gr_icmp_ne 87 X dX12_readRules_80 (by decide) (fun h16 => ?_) (fun h16 => ?_)
          · rw [if_pos h16] at hf
            refine gr_iconst 1 X dX12_readRules_83 (by decide) ?_
            refine gr_goto 88 X dX12_readRules_84 (by decide) ?_
            refine gr_sub (lv' := [(0, .ref (gx_ad x 0))]) [0] rfl ?_
            exact b12_readRules_88 X hc hE ih _ _ hf
          · rw [if_neg h16] at hf
            refine gr_iconst 0 X dX12_readRules_87 (by decide) ?_
            refine gr_sub (lv' := [(0, .ref (gx_ad x 0))]) [0] rfl ?_
            exact b12_readRules_88 X hc hE ih _ _ hf

def f12_readRules_7 : Nat → Int32 → gz_M → Option (Int32 × gz_M)
  | 0, _, _ => none
  | n + 1, x1, M0 => if 4 ≤ x1 then (if (M0.1 0 7) ≤ 0 then (f12_readRules_38 gz_FU 0 M0) else (f12_readRules_38 gz_FU 1 M0)) else (gz_ck (gz_inb x1 4) <| gz_lt (gz_w M0 12 x1.toNatClampNeg 0) fun M4 => gz_lt (x1 + 1) fun v5 => f12_readRules_7 n v5 M4)
theorem b12_readRules_7 {x : gz_X} {pf : Nat → Bool} {l : Launch} {r : Int32} {M' : gz_M} (X : gz_Ok x cX12_readRules RX12 2 34 gz_cfR pf l) (hc : gx_cells x ≤ (gx_R x).cells ∧ gx_slots x ≤ (gx_R x).slots) (hE : gz_EI x cX12_readRules .boolean r M') : ∀ (n : Nat) (x1 : Int32) (M0 : gz_M), f12_readRules_7 n x1 M0 = some (r, M') → gz_At x 7 [(0, .ref (gx_ad x 0)), (1, .int x1)] [] M0 := by
  intro n
  induction n with
  | zero =>
    intro x1 M0  hf
    rw [f12_readRules_7] at hf
    cases hf
  | succ n ih =>
    intro x1 M0  hf
    rw [f12_readRules_7] at hf
    refine gr_iload_n X dX12_readRules_7 1 rfl rfl ?_
    refine gr_iconst 4 X dX12_readRules_8 (by decide) ?_
    refine gr_icmp_ge 25 X dX12_readRules_9 (by decide) (fun h1 => ?_) (fun h1 => ?_)
    · rw [if_pos h1] at hf
      refine gr_aload_n X dX12_readRules_25 0 rfl rfl ?_
      refine gf12_7 X wf_RX12_137 dX12_readRules_26 ?_
      refine gr_if_le 36 X dX12_readRules_29 (by decide) (fun h2 => ?_) (fun h2 => ?_)
      · rw [if_pos h2] at hf
        refine gr_iconst 0 X dX12_readRules_36 (by decide) ?_
        refine gr_istore_n [(1, .int 0), (0, .ref (gx_ad x 0))] X dX12_readRules_37 rfl rfl (by decide) rfl ?_
        refine gr_sub (lv' := [(0, .ref (gx_ad x 0)), (1, .int 0)]) [1, 0] rfl ?_
        exact b12_readRules_38 X hc hE _ _ _ hf
      · rw [if_neg h2] at hf
        refine gr_iconst 1 X dX12_readRules_32 (by decide) ?_
        refine gr_goto 37 X dX12_readRules_33 (by decide) ?_
        refine gr_istore_n [(1, .int 1), (0, .ref (gx_ad x 0))] X dX12_readRules_37 rfl rfl (by decide) rfl ?_
        refine gr_sub (lv' := [(0, .ref (gx_ad x 0)), (1, .int 1)]) [1, 0] rfl ?_
        exact b12_readRules_38 X hc hE _ _ _ hf
    · rw [if_neg h1] at hf
      refine gr_aload_n X dX12_readRules_12 0 rfl rfl ?_
      refine gf12_18 X wf_RX12_46 dX12_readRules_13 ?_
      refine gr_iload_n X dX12_readRules_16 1 rfl rfl ?_
      refine gr_iconst 0 X dX12_readRules_17 (by decide) ?_
      obtain ⟨h3, hf⟩ := gz_cke hf
      obtain ⟨M4, eM4, hf⟩ := gz_lte hf
      refine gr_iastore X gk_R12 (gz_inp h3) eM4 dX12_readRules_18 ?_
      obtain ⟨v5, ev5, hf⟩ := gz_lte hf
      refine gr_iinc 1 [(1, .int v5), (0, .ref (gx_ad x 0))] X dX12_readRules_19 1 rfl (by decide) ev5 (by decide) rfl ?_
      refine gr_goto 7 X dX12_readRules_22 (by decide) ?_
      refine gr_sub (lv' := [(0, .ref (gx_ad x 0)), (1, .int v5)]) [1, 0] rfl ?_
      exact ih _ _ hf

def f12_readRules (M0 : gz_M) : Option (Int32 × gz_M) := gz_lt (gz_w M0 0 10 0) fun M1 => f12_readRules_7 gz_FU 0 M1
set_option maxRecDepth 100000 in
theorem c12_readRules {pf : Nat → Bool} {l : Launch} {r : Int32} {M0 M' : gz_M} (hf : f12_readRules M0 = some (r, M')) : gz_CI l gz_cfR yX12_readRules cX12_readRules 2 34 .boolean (fun ad => [.ref (ad 0)]) pf M0 r M' := by
  refine gz_ofI (by decide +kernel) (fun _ => Nat.le_of_ble_eq_true rfl) (fun x X hc hE => ?_)
  show gz_At x 0 [(0, .ref (gx_ad x 0))] [] M0
  unfold f12_readRules at hf
  refine gr_aload_n X dX12_readRules_0 0 rfl rfl ?_
  refine gr_iconst 0 X dX12_readRules_1 (by decide) ?_
  obtain ⟨M1, eM1, hf⟩ := gz_lte hf
  refine gp12_10 X wf_RX12_202 eM1 dX12_readRules_2 ?_
  refine gr_iconst 0 X dX12_readRules_5 (by decide) ?_
  refine gr_istore_n [(1, .int 0), (0, .ref (gx_ad x 0))] X dX12_readRules_6 rfl rfl (by decide) rfl ?_
  refine gr_sub (lv' := [(0, .ref (gx_ad x 0)), (1, .int 0)]) [1, 0] rfl ?_
  exact b12_readRules_7 X hc hE _ _ _ hf

def f12_layRules_9 (k0 : Nat) : Nat → Int32 → gz_M → Option (gz_M)
  | 0, _, _ => none
  | n + 1, x2, M0 => if (M0.1 0 7) ≤ x2 then (gz_lt (gz_w M0 0 8 0) fun M2 => gz_lt (gz_w M2 0 9 (-1)) fun M3 => gz_bd2 (f12_readRules M3) fun v4 M5 => if v4 = 0 then (gz_lt (gz_w M5 0 10 0) fun M8 => some M8) else (some M5)) else (gz_ck (gz_inb (1 + x2) 106) <| gz_ck (gz_inb x2 80) <| gz_lt (gz_w M0 4 x2.toNatClampNeg (M0.1 k0 (1 + x2).toNatClampNeg)) fun M11 => gz_lt (x2 + 1) fun v12 => f12_layRules_9 k0 n v12 M11)
theorem b12_layRules_9 {x : gz_X} {pf : Nat → Bool} {l : Launch} {M' : gz_M} (X : gz_Ok x cX12_layRules RX12 3 35 gz_cfR pf l) (hc : gx_cells x ≤ (gx_R x).cells ∧ gx_slots x ≤ (gx_R x).slots) (hE : gz_EV x cX12_layRules M') {k0 : Nat} (hk0 : gz_KD gz_cfR pf k0 (gz_oI 106)) : ∀ (n : Nat) (x2 : Int32) (M0 : gz_M), f12_layRules_9 k0 n x2 M0 = some M' → gz_At x 9 [(0, .ref (gx_ad x 0)), (1, .ref (gx_ad x k0)), (2, .int x2)] [] M0 := by
  intro n
  induction n with
  | zero =>
    intro x2 M0  hf
    rw [f12_layRules_9] at hf
    cases hf
  | succ n ih =>
    intro x2 M0  hf
    rw [f12_layRules_9] at hf
    refine gr_iload_n X dX12_layRules_9 2 rfl rfl ?_
    refine gr_aload_n X dX12_layRules_10 0 rfl rfl ?_
    refine gf12_7 X wf_RX12_137 dX12_layRules_11 ?_
    refine gr_icmp_ge 34 X dX12_layRules_14 (by decide) (fun h1 => ?_) (fun h1 => ?_)
    · rw [if_pos h1] at hf
      refine gr_aload_n X dX12_layRules_34 0 rfl rfl ?_
      refine gr_iconst 0 X dX12_layRules_35 (by decide) ?_
      obtain ⟨M2, eM2, hf⟩ := gz_lte hf
      refine gp12_8 X wf_RX12_140 eM2 dX12_layRules_36 ?_
      refine gr_aload_n X dX12_layRules_39 0 rfl rfl ?_
      refine gr_iconst (-1) X dX12_layRules_40 (by decide) ?_
      obtain ⟨M3, eM3, hf⟩ := gz_lte hf
      refine gp12_9 X wf_RX12_143 eM3 dX12_layRules_41 ?_
      refine gr_aload_n X dX12_layRules_44 0 rfl rfl ?_
      obtain ⟨v4, M5, q6, hf⟩ := gz_bd2e hf
      refine gr_callI (asF := fun ad => [.ref (ad 0)]) [] X (c12_readRules q6) rfl wm_RX12_211 rfl (X.kd gk_R0).1 ((X.kd gk_R0).2 _ _ _ _) rfl (by decide) (by decide) rfl (Nat.le_of_ble_eq_true rfl) hc dX12_layRules_45 ?_
      refine gr_istore_n [(2, .int v4), (0, .ref (gx_ad x 0)), (1, .ref (gx_ad x k0))] X dX12_layRules_48 rfl rfl (by decide) rfl ?_
      refine gr_iload_n X dX12_layRules_49 0 rfl rfl ?_
      refine gr_if_ne 58 X dX12_layRules_50 (by decide) (fun h7 => ?_) (fun h7 => ?_)
      · rw [if_pos h7] at hf
        refine gr_aload_n X dX12_layRules_53 1 rfl rfl ?_
        refine gr_iconst 0 X dX12_layRules_54 (by decide) ?_
        obtain ⟨M8, eM8, hf⟩ := gz_lte hf
        refine gp12_10 X wf_RX12_202 eM8 dX12_layRules_55 ?_
        exact gz_EVu hE hf dX12_layRules_58
      · rw [if_neg h7] at hf
        exact gz_EVu hE hf dX12_layRules_58
    · rw [if_neg h1] at hf
      refine gr_aload_n X dX12_layRules_17 0 rfl rfl ?_
      refine gf12_6 X wf_RX12_21 dX12_layRules_18 ?_
      refine gr_iload_n X dX12_layRules_21 2 rfl rfl ?_
      refine gr_aload_n X dX12_layRules_22 1 rfl rfl ?_
      refine gr_iconst 1 X dX12_layRules_23 (by decide) ?_
      refine gr_iload_n X dX12_layRules_24 2 rfl rfl ?_
      refine gr_iadd X dX12_layRules_25 ?_
      obtain ⟨h9, hf⟩ := gz_cke hf
      refine gr_iaload X hk0 (gz_inp h9) dX12_layRules_26 ?_
      obtain ⟨h10, hf⟩ := gz_cke hf
      obtain ⟨M11, eM11, hf⟩ := gz_lte hf
      refine gr_iastore X gk_R4 (gz_inp h10) eM11 dX12_layRules_27 ?_
      obtain ⟨v12, ev12, hf⟩ := gz_lte hf
      refine gr_iinc 1 [(2, .int v12), (0, .ref (gx_ad x 0)), (1, .ref (gx_ad x k0))] X dX12_layRules_28 2 rfl (by decide) ev12 (by decide) rfl ?_
      refine gr_goto 9 X dX12_layRules_31 (by decide) ?_
      refine gr_sub (lv' := [(0, .ref (gx_ad x 0)), (1, .ref (gx_ad x k0)), (2, .int v12)]) [1, 2, 0] rfl ?_
      exact ih _ _ hf

def f12_layRules (k0 : Nat) (M0 : gz_M) : Option (gz_M) := gz_ck (gz_inb 0 106) <| gz_lt (gz_w M0 0 7 (M0.1 k0 (0 : Int32).toNatClampNeg)) fun M2 => f12_layRules_9 k0 gz_FU 0 M2
set_option maxRecDepth 100000 in
theorem c12_layRules {pf : Nat → Bool} {l : Launch} {M0 M' : gz_M} {k0 : Nat} (hk0 : gz_KD gz_cfR pf k0 (gz_oI 106)) (hf : f12_layRules k0 M0 = some M') : gz_CV l gz_cfR yX12_layRules cX12_layRules 3 35 (fun ad => [.ref (ad 0), .ref (ad k0)]) pf M0 M' := by
  refine gz_ofV (by decide +kernel) (fun _ => Nat.le_of_ble_eq_true rfl) (fun x X hc hE => ?_)
  show gz_At x 0 [(0, .ref (gx_ad x 0)), (1, .ref (gx_ad x k0))] [] M0
  unfold f12_layRules at hf
  refine gr_aload_n X dX12_layRules_0 0 rfl rfl ?_
  refine gr_aload_n X dX12_layRules_1 1 rfl rfl ?_
  refine gr_iconst 0 X dX12_layRules_2 (by decide) ?_
  obtain ⟨h1, hf⟩ := gz_cke hf
  refine gr_iaload X hk0 (gz_inp h1) dX12_layRules_3 ?_
  obtain ⟨M2, eM2, hf⟩ := gz_lte hf
  refine gp12_7 X wf_RX12_137 eM2 dX12_layRules_4 ?_
  refine gr_iconst 0 X dX12_layRules_7 (by decide) ?_
  refine gr_istore_n [(2, .int 0), (0, .ref (gx_ad x 0)), (1, .ref (gx_ad x k0))] X dX12_layRules_8 rfl rfl (by decide) rfl ?_
  refine gr_sub (lv' := [(0, .ref (gx_ad x 0)), (1, .ref (gx_ad x k0)), (2, .int 0)]) [1, 2, 0] rfl ?_
  exact b12_layRules_9 X hc hE hk0 _ _ _ hf

def f12_rules_98 (x1 : Int32) (x2 : Int32) (x3 : Int32) (x4 : Int32) (M0 : gz_M) : Option (Int32 × gz_M) := gz_bd (f12_layRules 1 M0) fun M1 => if x1 = 0 then (some ((-1) - x2, M1)) else (if x3 = (-1) then (some (x4, M1)) else (some ((-100) - x3, M1)))
theorem b12_rules_98 {x : gz_X} {pf : Nat → Bool} {l : Launch} {r : Int32} {M' : gz_M} (X : gz_Ok x cX12_rules RX12 6 36 gz_cfR pf l) (hc : gx_cells x ≤ (gx_R x).cells ∧ gx_slots x ≤ (gx_R x).slots) (hE : gz_EI x cX12_rules .int r M') : ∀ (x1 : Int32) (x2 : Int32) (x3 : Int32) (x4 : Int32) (M0 : gz_M), f12_rules_98 x1 x2 x3 x4 M0 = some (r, M') → gz_At x 98 [(0, .ref (gx_ad x 0)), (1, .int x1), (2, .int x2), (3, .int x3), (4, .int x4)] [] M0 := by
  intro x1 x2 x3 x4 M0  hf
  rw [f12_rules_98] at hf
  refine gr_aload_n X dX12_rules_98 0 rfl rfl ?_
  refine gr_aload_n X dX12_rules_99 0 rfl rfl ?_
  refine gf12_0 X wf_RX12_9 dX12_rules_100 ?_
  obtain ⟨M1, q2, hf⟩ := gz_bde hf
  refine gr_callV (asF := fun ad => [.ref (ad 0), .ref (ad 1)]) [.ref (gx_ad x 1)] X (c12_layRules gk_R1 q2) rfl wm_RX12_119 rfl (X.kd gk_R0).1 ((X.kd gk_R0).2 _ _ _ _) rfl (by decide) (by decide) rfl (Nat.le_of_ble_eq_true rfl) hc dX12_rules_103 ?_
  refine gr_iload_n X dX12_rules_106 1 rfl rfl ?_
  refine gr_if_ne 116 X dX12_rules_107 (by decide) (fun h3 => ?_) (fun h3 => ?_)
  · rw [if_pos h3] at hf
    refine gr_iconst (-1) X dX12_rules_110 (by decide) ?_
    refine gr_iload_n X dX12_rules_111 2 rfl rfl ?_
    refine gr_isub X dX12_rules_112 ?_
    refine gr_goto 130 X dX12_rules_113 (by decide) ?_
    exact gz_EIu hE hf rfl dX12_rules_130
  · rw [if_neg h3] at hf
    refine gr_iload_n X dX12_rules_116 3 rfl rfl ?_
    refine gr_iconst (-1) X dX12_rules_117 (by decide) ?_
    refine gr_icmp_eq 128 X dX12_rules_118 (by decide) (fun h4 => ?_) (fun h4 => ?_)
    · rw [if_pos h4] at hf
      refine gr_iload X dX12_rules_128 4 rfl ?_
      exact gz_EIu hE hf rfl dX12_rules_130
    · rw [if_neg h4] at hf
      refine gr_bipush (-100) X dX12_rules_121 (by decide) ?_
      refine gr_iload_n X dX12_rules_123 3 rfl rfl ?_
      refine gr_isub X dX12_rules_124 ?_
      refine gr_goto 130 X dX12_rules_125 (by decide) ?_
      exact gz_EIu hE hf rfl dX12_rules_130

def f12_rules_56 : Nat → Int32 → Int32 → Int32 → Int32 → Int32 → gz_M → Option (Int32 × gz_M)
  | 0, _, _, _, _, _, _ => none
  | n + 1, x1, x2, x3, x4, x5, M0 => if 80 ≤ x5 then (f12_rules_98 x1 x2 x3 x4 M0) else (if (M0.1 0 7) ≤ x5 then (gz_ck (gz_inb (1 + x5) 106) <| gz_lt (gz_w M0 1 (1 + x5).toNatClampNeg 0) fun M4 => gz_lt (x5 + 1) fun v5 => f12_rules_56 n x1 x2 x3 x4 v5 M4) else (gz_ck (gz_inb x5 80) <| gz_ck (gz_inb (1 + x5) 106) <| gz_lt (gz_w M0 1 (1 + x5).toNatClampNeg (M0.1 4 x5.toNatClampNeg)) fun M8 => gz_lt (x5 + 1) fun v9 => f12_rules_56 n x1 x2 x3 x4 v9 M8))
theorem b12_rules_56 {x : gz_X} {pf : Nat → Bool} {l : Launch} {r : Int32} {M' : gz_M} (X : gz_Ok x cX12_rules RX12 6 36 gz_cfR pf l) (hc : gx_cells x ≤ (gx_R x).cells ∧ gx_slots x ≤ (gx_R x).slots) (hE : gz_EI x cX12_rules .int r M') : ∀ (n : Nat) (x1 : Int32) (x2 : Int32) (x3 : Int32) (x4 : Int32) (x5 : Int32) (M0 : gz_M), f12_rules_56 n x1 x2 x3 x4 x5 M0 = some (r, M') → gz_At x 56 [(0, .ref (gx_ad x 0)), (1, .int x1), (2, .int x2), (3, .int x3), (4, .int x4), (5, .int x5)] [] M0 := by
  intro n
  induction n with
  | zero =>
    intro x1 x2 x3 x4 x5 M0  hf
    rw [f12_rules_56] at hf
    cases hf
  | succ n ih =>
    intro x1 x2 x3 x4 x5 M0  hf
    rw [f12_rules_56] at hf
    refine gr_iload X dX12_rules_56 5 rfl ?_
    refine gr_bipush 80 X dX12_rules_58 (by decide) ?_
    refine gr_icmp_ge 98 X dX12_rules_60 (by decide) (fun h1 => ?_) (fun h1 => ?_)
    · rw [if_pos h1] at hf
      refine gr_sub (lv' := [(0, .ref (gx_ad x 0)), (1, .int x1), (2, .int x2), (3, .int x3), (4, .int x4)]) [0, 1, 2, 3, 4] rfl ?_
      exact b12_rules_98 X hc hE _ _ _ _ _ hf
    · rw [if_neg h1] at hf
      refine gr_aload_n X dX12_rules_63 0 rfl rfl ?_
      refine gf12_0 X wf_RX12_9 dX12_rules_64 ?_
      refine gr_iconst 1 X dX12_rules_67 (by decide) ?_
      refine gr_iload X dX12_rules_68 5 rfl ?_
      refine gr_iadd X dX12_rules_70 ?_
      refine gr_iload X dX12_rules_71 5 rfl ?_
      refine gr_aload_n X dX12_rules_73 0 rfl rfl ?_
      refine gf12_7 X wf_RX12_137 dX12_rules_74 ?_
      refine gr_icmp_ge 90 X dX12_rules_77 (by decide) (fun h2 => ?_) (fun h2 => ?_)
      · rw [if_pos h2] at hf
        refine gr_iconst 0 X dX12_rules_90 (by decide) ?_
        obtain ⟨h3, hf⟩ := gz_cke hf
        obtain ⟨M4, eM4, hf⟩ := gz_lte hf
        refine gr_iastore X gk_R1 (gz_inp h3) eM4 dX12_rules_91 ?_
        obtain ⟨v5, ev5, hf⟩ := gz_lte hf
        refine gr_iinc 1 [(5, .int v5), (0, .ref (gx_ad x 0)), (1, .int x1), (2, .int x2), (3, .int x3), (4, .int x4)] X dX12_rules_92 5 rfl (by decide) ev5 (by decide) rfl ?_
        refine gr_goto 56 X dX12_rules_95 (by decide) ?_
        refine gr_sub (lv' := [(0, .ref (gx_ad x 0)), (1, .int x1), (2, .int x2), (3, .int x3), (4, .int x4), (5, .int v5)]) [1, 2, 3, 4, 5, 0] rfl ?_
        exact ih _ _ _ _ _ _ hf
      · rw [if_neg h2] at hf
        refine gr_aload_n X dX12_rules_80 0 rfl rfl ?_
        refine gf12_6 X wf_RX12_21 dX12_rules_81 ?_
        refine gr_iload X dX12_rules_84 5 rfl ?_
        obtain ⟨h6, hf⟩ := gz_cke hf
        refine gr_iaload X gk_R4 (gz_inp h6) dX12_rules_86 ?_
        refine gr_goto 91 X dX12_rules_87 (by decide) ?_
        obtain ⟨h7, hf⟩ := gz_cke hf
        obtain ⟨M8, eM8, hf⟩ := gz_lte hf
        refine gr_iastore X gk_R1 (gz_inp h7) eM8 dX12_rules_91 ?_
        obtain ⟨v9, ev9, hf⟩ := gz_lte hf
        refine gr_iinc 1 [(5, .int v9), (0, .ref (gx_ad x 0)), (1, .int x1), (2, .int x2), (3, .int x3), (4, .int x4)] X dX12_rules_92 5 rfl (by decide) ev9 (by decide) rfl ?_
        refine gr_goto 56 X dX12_rules_95 (by decide) ?_
        refine gr_sub (lv' := [(0, .ref (gx_ad x 0)), (1, .int x1), (2, .int x2), (3, .int x3), (4, .int x4), (5, .int v9)]) [1, 2, 3, 4, 5, 0] rfl ?_
        exact ih _ _ _ _ _ _ hf

def f12_rules (M0 : gz_M) : Option (Int32 × gz_M) := gz_lt (gz_w M0 0 5 0) fun M1 => gz_bd (f12_begin M1) fun M2 => gz_bd2 (f12_readRules M2) fun v4 M5 => gz_lt (M5.1 0 9) fun v7 => gz_bd2 (f12_crowded M5) fun v8 M9 => gz_lt (M9.1 0 10) fun v11 => if v4 = 0 then (f12_rules_98 v4 v7 v8 v11 M9) else (if v8 = (-1) then (gz_bd (f12_change M9) fun M14 => gz_ck (gz_inb 0 106) <| gz_lt (gz_w M14 1 (0 : Int32).toNatClampNeg (M14.1 0 7)) fun M17 => f12_rules_56 gz_FU v4 v7 v8 v11 0 M17) else (f12_rules_98 v4 v7 v8 v11 M9))
set_option maxRecDepth 100000 in
theorem c12_rules {pf : Nat → Bool} {l : Launch} {r : Int32} {M0 M' : gz_M} (hf : f12_rules M0 = some (r, M')) : gz_CI l gz_cfR yX12_rules cX12_rules 6 36 .int (fun ad => [.ref (ad 0)]) pf M0 r M' := by
  refine gz_ofI (by decide +kernel) (fun _ => Nat.le_of_ble_eq_true rfl) (fun x X hc hE => ?_)
  show gz_At x 0 [(0, .ref (gx_ad x 0))] [] M0
  unfold f12_rules at hf
  refine gr_aload_n X dX12_rules_0 0 rfl rfl ?_
  refine gr_iconst 0 X dX12_rules_1 (by decide) ?_
  obtain ⟨M1, eM1, hf⟩ := gz_lte hf
  refine gp12_5 X wf_RX12_123 eM1 dX12_rules_2 ?_
  refine gr_aload_n X dX12_rules_5 0 rfl rfl ?_
  obtain ⟨M2, q3, hf⟩ := gz_bde hf
  refine gr_callV (asF := fun ad => [.ref (ad 0)]) [] X (c12_begin q3) rfl wm_RX12_214 rfl (X.kd gk_R0).1 ((X.kd gk_R0).2 _ _ _ _) rfl (by decide) (by decide) rfl (Nat.le_of_ble_eq_true rfl) hc dX12_rules_6 ?_
  refine gr_aload_n X dX12_rules_9 0 rfl rfl ?_
  obtain ⟨v4, M5, q6, hf⟩ := gz_bd2e hf
  refine gr_callI (asF := fun ad => [.ref (ad 0)]) [] X (c12_readRules q6) rfl wm_RX12_211 rfl (X.kd gk_R0).1 ((X.kd gk_R0).2 _ _ _ _) rfl (by decide) (by decide) rfl (Nat.le_of_ble_eq_true rfl) hc dX12_rules_10 ?_
  refine gr_istore_n [(1, .int v4), (0, .ref (gx_ad x 0))] X dX12_rules_13 rfl rfl (by decide) rfl ?_
  refine gr_aload_n X dX12_rules_14 1 rfl rfl ?_
  refine gf12_9 X wf_RX12_143 dX12_rules_15 ?_
  obtain ⟨v7, ev7, hf⟩ := gz_lte hf
  refine gr_istore_n [(2, .int v7), (1, .int v4), (0, .ref (gx_ad x 0))] X dX12_rules_18 ev7 rfl (by decide) rfl ?_
  refine gr_aload_n X dX12_rules_19 2 rfl rfl ?_
  obtain ⟨v8, M9, q10, hf⟩ := gz_bd2e hf
  refine gr_callI (asF := fun ad => [.ref (ad 0)]) [] X (c12_crowded q10) rfl wm_RX12_217 rfl (X.kd gk_R0).1 ((X.kd gk_R0).2 _ _ _ _) rfl (by decide) (by decide) rfl (Nat.le_of_ble_eq_true rfl) hc dX12_rules_20 ?_
  refine gr_istore_n [(3, .int v8), (2, .int v7), (1, .int v4), (0, .ref (gx_ad x 0))] X dX12_rules_23 rfl rfl (by decide) rfl ?_
  refine gr_aload_n X dX12_rules_24 3 rfl rfl ?_
  refine gf12_10 X wf_RX12_202 dX12_rules_25 ?_
  obtain ⟨v11, ev11, hf⟩ := gz_lte hf
  refine gr_istore [(4, .int v11), (3, .int v8), (2, .int v7), (1, .int v4), (0, .ref (gx_ad x 0))] X dX12_rules_28 ev11 (by decide) rfl ?_
  refine gr_iload_n X dX12_rules_30 3 rfl rfl ?_
  refine gr_if_eq 98 X dX12_rules_31 (by decide) (fun h12 => ?_) (fun h12 => ?_)
  · rw [if_pos h12] at hf
    refine gr_sub (lv' := [(0, .ref (gx_ad x 0)), (1, .int v4), (2, .int v7), (3, .int v8), (4, .int v11)]) [4, 3, 2, 1, 0] rfl ?_
    exact b12_rules_98 X hc hE _ _ _ _ _ hf
  · rw [if_neg h12] at hf
    refine gr_iload_n X dX12_rules_34 1 rfl rfl ?_
    refine gr_iconst (-1) X dX12_rules_35 (by decide) ?_
    refine gr_icmp_ne 98 X dX12_rules_36 (by decide) (fun h13 => ?_) (fun h13 => ?_)
    · rw [if_pos h13] at hf
      refine gr_aload_n X dX12_rules_39 4 rfl rfl ?_
      obtain ⟨M14, q15, hf⟩ := gz_bde hf
      refine gr_callV (asF := fun ad => [.ref (ad 0)]) [] X (c12_change q15) rfl wm_RX12_220 rfl (X.kd gk_R0).1 ((X.kd gk_R0).2 _ _ _ _) rfl (by decide) (by decide) rfl (Nat.le_of_ble_eq_true rfl) hc dX12_rules_40 ?_
      refine gr_aload_n X dX12_rules_43 4 rfl rfl ?_
      refine gf12_0 X wf_RX12_9 dX12_rules_44 ?_
      refine gr_iconst 0 X dX12_rules_47 (by decide) ?_
      refine gr_aload_n X dX12_rules_48 4 rfl rfl ?_
      refine gf12_7 X wf_RX12_137 dX12_rules_49 ?_
      obtain ⟨h16, hf⟩ := gz_cke hf
      obtain ⟨M17, eM17, hf⟩ := gz_lte hf
      refine gr_iastore X gk_R1 (gz_inp h16) eM17 dX12_rules_52 ?_
      refine gr_iconst 0 X dX12_rules_53 (by decide) ?_
      refine gr_istore [(5, .int 0), (4, .int v11), (3, .int v8), (2, .int v7), (1, .int v4), (0, .ref (gx_ad x 0))] X dX12_rules_54 rfl (by decide) rfl ?_
      refine gr_sub (lv' := [(0, .ref (gx_ad x 0)), (1, .int v4), (2, .int v7), (3, .int v8), (4, .int v11), (5, .int 0)]) [5, 4, 3, 2, 1, 0] rfl ?_
      exact b12_rules_56 X hc hE _ _ _ _ _ _ _ hf
    · rw [if_neg h13] at hf
      refine gr_sub (lv' := [(0, .ref (gx_ad x 0)), (1, .int v4), (2, .int v7), (3, .int v8), (4, .int v11)]) [4, 3, 2, 1, 0] rfl ?_
      exact b12_rules_98 X hc hE _ _ _ _ _ hf

def f12_like_145 (x2 : Int32) (M0 : gz_M) : Option (Int32 × gz_M) := gz_lt (gz_w M0 0 4 0) fun M1 => gz_bd (f12_tell ((M1.1 0 31).toInt64) M1) fun M2 => gz_bd2 (f12_stuckMany M2) fun v4 M5 => gz_bd (f12_tell (v4.toInt64) M5) fun M7 => gz_bd (f12_layRules 1 M7) fun M9 => some (x2, M9)
theorem b12_like_145 {x : gz_X} {pf : Nat → Bool} {l : Launch} {r : Int32} {M' : gz_M} (X : gz_Ok x cX12_like RX12 3 36 gz_cfR pf l) (hc : gx_cells x ≤ (gx_R x).cells ∧ gx_slots x ≤ (gx_R x).slots) (hE : gz_EI x cX12_like .int r M') : ∀ (x2 : Int32) (M0 : gz_M), f12_like_145 x2 M0 = some (r, M') → gz_At x 145 [(0, .ref (gx_ad x 0)), (2, .int x2)] [] M0 := by
  intro x2 M0  hf
  rw [f12_like_145] at hf
  refine gr_aload_n X dX12_like_145 0 rfl rfl ?_
  refine gr_iconst 0 X dX12_like_146 (by decide) ?_
  obtain ⟨M1, eM1, hf⟩ := gz_lte hf
  refine gp12_4 X wf_RX12_127 eM1 dX12_like_147 ?_
  refine gr_aload_n X dX12_like_150 0 rfl rfl ?_
  refine gr_aload_n X dX12_like_151 0 rfl rfl ?_
  refine gf12_31 X wf_RX12_238 dX12_like_152 ?_
  refine gr_i2l X dX12_like_155 ?_
  obtain ⟨M2, q3, hf⟩ := gz_bde hf
  refine gr_callV (asF := fun ad => [.ref (ad 0), .long ((M1.1 0 31).toInt64)]) [.long ((M1.1 0 31).toInt64)] X (c12_tell q3) rfl wm_RX12_280 rfl (X.kd gk_R0).1 ((X.kd gk_R0).2 _ _ _ _) rfl (by decide) (by decide) rfl (Nat.le_of_ble_eq_true rfl) hc dX12_like_156 ?_
  refine gr_aload_n X dX12_like_159 0 rfl rfl ?_
  refine gr_aload_n X dX12_like_160 0 rfl rfl ?_
  obtain ⟨v4, M5, q6, hf⟩ := gz_bd2e hf
  refine gr_callI (asF := fun ad => [.ref (ad 0)]) [] X (c12_stuckMany q6) rfl wm_RX12_284 rfl (X.kd gk_R0).1 ((X.kd gk_R0).2 _ _ _ _) rfl (by decide) (by decide) rfl (Nat.le_of_ble_eq_true rfl) hc dX12_like_161 ?_
  refine gr_i2l X dX12_like_164 ?_
  obtain ⟨M7, q8, hf⟩ := gz_bde hf
  refine gr_callV (asF := fun ad => [.ref (ad 0), .long (v4.toInt64)]) [.long (v4.toInt64)] X (c12_tell q8) rfl wm_RX12_280 rfl (X.kd gk_R0).1 ((X.kd gk_R0).2 _ _ _ _) rfl (by decide) (by decide) rfl (Nat.le_of_ble_eq_true rfl) hc dX12_like_165 ?_
  refine gr_aload_n X dX12_like_168 0 rfl rfl ?_
  refine gr_aload_n X dX12_like_169 0 rfl rfl ?_
  refine gf12_0 X wf_RX12_9 dX12_like_170 ?_
  obtain ⟨M9, q10, hf⟩ := gz_bde hf
  refine gr_callV (asF := fun ad => [.ref (ad 0), .ref (ad 1)]) [.ref (gx_ad x 1)] X (c12_layRules gk_R1 q10) rfl wm_RX12_119 rfl (X.kd gk_R0).1 ((X.kd gk_R0).2 _ _ _ _) rfl (by decide) (by decide) rfl (Nat.le_of_ble_eq_true rfl) hc dX12_like_173 ?_
  refine gr_iload_n X dX12_like_176 1 rfl rfl ?_
  exact gz_EIu hE hf rfl dX12_like_177

def f12_like_83 : Nat → Int32 → gz_M → Option (Int32 × gz_M)
  | 0, _, _ => none
  | n + 1, x2, M0 => if (M0.1 0 39) ≤ x2 then (f12_like_145 x2 M0) else (if (M0.1 0 31) ≤ x2 then (f12_like_145 x2 M0) else (gz_ck (gz_inb ((12 * x2) + 0) 300) <| gz_bd2 (f12_of x2 0 M0) fun v4 M5 => if (M0.1 23 ((12 * x2) + 0).toNatClampNeg) = v4 then (gz_ck (gz_inb ((12 * x2) + 2) 300) <| gz_bd2 (f12_of x2 2 M5) fun v9 M10 => if (M5.1 23 ((12 * x2) + 2).toNatClampNeg) = v9 then (gz_lt (x2 + 1) fun v13 => f12_like_83 n v13 M10) else (f12_like_145 x2 M10)) else (f12_like_145 x2 M5)))
theorem b12_like_83 {x : gz_X} {pf : Nat → Bool} {l : Launch} {r : Int32} {M' : gz_M} (X : gz_Ok x cX12_like RX12 3 36 gz_cfR pf l) (hc : gx_cells x ≤ (gx_R x).cells ∧ gx_slots x ≤ (gx_R x).slots) (hE : gz_EI x cX12_like .int r M') : ∀ (n : Nat) (x2 : Int32) (M0 : gz_M), f12_like_83 n x2 M0 = some (r, M') → gz_At x 83 [(0, .ref (gx_ad x 0)), (2, .int x2)] [] M0 := by
  intro n
  induction n with
  | zero =>
    intro x2 M0  hf
    rw [f12_like_83] at hf
    cases hf
  | succ n ih =>
    intro x2 M0  hf
    rw [f12_like_83] at hf
    refine gr_iload_n X dX12_like_83 1 rfl rfl ?_
    refine gr_aload_n X dX12_like_84 0 rfl rfl ?_
    refine gf12_39 X wf_RX12_287 dX12_like_85 ?_
    refine gr_icmp_ge 145 X dX12_like_88 (by decide) (fun h1 => ?_) (fun h1 => ?_)
    · rw [if_pos h1] at hf
      exact b12_like_145 X hc hE _ _ hf
    · rw [if_neg h1] at hf
      refine gr_iload_n X dX12_like_91 1 rfl rfl ?_
      refine gr_aload_n X dX12_like_92 0 rfl rfl ?_
      refine gf12_31 X wf_RX12_238 dX12_like_93 ?_
      refine gr_icmp_ge 145 X dX12_like_96 (by decide) (fun h2 => ?_) (fun h2 => ?_)
      · rw [if_pos h2] at hf
        exact b12_like_145 X hc hE _ _ hf
      · rw [if_neg h2] at hf
        refine gr_aload_n X dX12_like_99 0 rfl rfl ?_
        refine gf12_38 X wf_RX12_80 dX12_like_100 ?_
        refine gr_bipush 12 X dX12_like_103 (by decide) ?_
        refine gr_iload_n X dX12_like_105 1 rfl rfl ?_
        refine gr_imul X dX12_like_106 ?_
        refine gr_iconst 0 X dX12_like_107 (by decide) ?_
        refine gr_iadd X dX12_like_108 ?_
        obtain ⟨h3, hf⟩ := gz_cke hf
        refine gr_iaload X gk_R23 (gz_inp h3) dX12_like_109 ?_
        refine gr_aload_n X dX12_like_110 0 rfl rfl ?_
        refine gr_iload_n X dX12_like_111 1 rfl rfl ?_
        refine gr_iconst 0 X dX12_like_112 (by decide) ?_
        obtain ⟨v4, M5, q6, hf⟩ := gz_bd2e hf
        refine gr_callI (asF := fun ad => [.ref (ad 0), .int x2, .int 0]) [.int x2, .int 0] X (c12_of q6) rfl wm_RX12_277 rfl (X.kd gk_R0).1 ((X.kd gk_R0).2 _ _ _ _) rfl (by decide) (by decide) rfl (Nat.le_of_ble_eq_true rfl) hc dX12_like_113 ?_
        refine gr_icmp_ne 145 X dX12_like_116 (by decide) (fun h7 => ?_) (fun h7 => ?_)
        · rw [if_pos h7] at hf
          refine gr_aload_n X dX12_like_119 0 rfl rfl ?_
          refine gf12_38 X wf_RX12_80 dX12_like_120 ?_
          refine gr_bipush 12 X dX12_like_123 (by decide) ?_
          refine gr_iload_n X dX12_like_125 1 rfl rfl ?_
          refine gr_imul X dX12_like_126 ?_
          refine gr_iconst 2 X dX12_like_127 (by decide) ?_
          refine gr_iadd X dX12_like_128 ?_
          obtain ⟨h8, hf⟩ := gz_cke hf
          refine gr_iaload X gk_R23 (gz_inp h8) dX12_like_129 ?_
          refine gr_aload_n X dX12_like_130 0 rfl rfl ?_
          refine gr_iload_n X dX12_like_131 1 rfl rfl ?_
          refine gr_iconst 2 X dX12_like_132 (by decide) ?_
          obtain ⟨v9, M10, q11, hf⟩ := gz_bd2e hf
          refine gr_callI (asF := fun ad => [.ref (ad 0), .int x2, .int 2]) [.int x2, .int 2] X (c12_of q11) rfl wm_RX12_277 rfl (X.kd gk_R0).1 ((X.kd gk_R0).2 _ _ _ _) rfl (by decide) (by decide) rfl (Nat.le_of_ble_eq_true rfl) hc dX12_like_133 ?_
          refine gr_icmp_ne 145 X dX12_like_136 (by decide) (fun h12 => ?_) (fun h12 => ?_)
          · rw [if_pos h12] at hf
            obtain ⟨v13, ev13, hf⟩ := gz_lte hf
            refine gr_iinc 1 [(2, .int v13), (0, .ref (gx_ad x 0))] X dX12_like_139 1 rfl (by decide) ev13 (by decide) rfl ?_
            refine gr_goto 83 X dX12_like_142 (by decide) ?_
            refine gr_sub (lv' := [(0, .ref (gx_ad x 0)), (2, .int v13)]) [1, 0] rfl ?_
            exact ih _ _ hf
          · rw [if_neg h12] at hf
            exact b12_like_145 X hc hE _ _ hf
        · rw [if_neg h7] at hf
          exact b12_like_145 X hc hE _ _ hf

def f12_like_39 : Nat → Int32 → Int32 → gz_M → Option (Int32 × gz_M)
  | 0, _, _, _ => none
  | n + 1, x1, x2, M0 => if 106 ≤ x2 then (gz_bd (f12_layRules 34 M0) fun M2 => gz_bd (f12_cutAll 0 M2) fun M4 => f12_like_83 gz_FU 0 M4) else (gz_ck (gz_inb ((106 * x1) + x2) 212) <| gz_ck (gz_inb x2 106) <| gz_lt (gz_w M0 34 x2.toNatClampNeg (M0.1 21 ((106 * x1) + x2).toNatClampNeg)) fun M8 => gz_lt (x2 + 1) fun v9 => f12_like_39 n x1 v9 M8)
theorem b12_like_39 {x : gz_X} {pf : Nat → Bool} {l : Launch} {r : Int32} {M' : gz_M} (X : gz_Ok x cX12_like RX12 3 36 gz_cfR pf l) (hc : gx_cells x ≤ (gx_R x).cells ∧ gx_slots x ≤ (gx_R x).slots) (hE : gz_EI x cX12_like .int r M') : ∀ (n : Nat) (x1 : Int32) (x2 : Int32) (M0 : gz_M), f12_like_39 n x1 x2 M0 = some (r, M') → gz_At x 39 [(0, .ref (gx_ad x 0)), (1, .int x1), (2, .int x2)] [] M0 := by
  intro n
  induction n with
  | zero =>
    intro x1 x2 M0  hf
    rw [f12_like_39] at hf
    cases hf
  | succ n ih =>
    intro x1 x2 M0  hf
    rw [f12_like_39] at hf
    refine gr_iload_n X dX12_like_39 2 rfl rfl ?_
    refine gr_bipush 106 X dX12_like_40 (by decide) ?_
    refine gr_icmp_ge 68 X dX12_like_42 (by decide) (fun h1 => ?_) (fun h1 => ?_)
    · rw [if_pos h1] at hf
      refine gr_aload_n X dX12_like_68 0 rfl rfl ?_
      refine gr_aload_n X dX12_like_69 0 rfl rfl ?_
      refine gf12_52 X wf_RX12_113 dX12_like_70 ?_
      obtain ⟨M2, q3, hf⟩ := gz_bde hf
      refine gr_callV (asF := fun ad => [.ref (ad 0), .ref (ad 34)]) [.ref (gx_ad x 34)] X (c12_layRules gk_R34 q3) rfl wm_RX12_119 rfl (X.kd gk_R0).1 ((X.kd gk_R0).2 _ _ _ _) rfl (by decide) (by decide) rfl (Nat.le_of_ble_eq_true rfl) hc dX12_like_73 ?_
      refine gr_aload_n X dX12_like_76 0 rfl rfl ?_
      refine gr_iconst 0 X dX12_like_77 (by decide) ?_
      obtain ⟨M4, q5, hf⟩ := gz_bde hf
      refine gr_callV (asF := fun ad => [.ref (ad 0), .int 0]) [.int 0] X (c12_cutAll q5) rfl wm_RX12_274 rfl (X.kd gk_R0).1 ((X.kd gk_R0).2 _ _ _ _) rfl (by decide) (by decide) rfl (Nat.le_of_ble_eq_true rfl) hc dX12_like_78 ?_
      refine gr_iconst 0 X dX12_like_81 (by decide) ?_
      refine gr_istore_n [(2, .int 0), (0, .ref (gx_ad x 0)), (1, .int x1)] X dX12_like_82 rfl rfl (by decide) rfl ?_
      refine gr_sub (lv' := [(0, .ref (gx_ad x 0)), (2, .int 0)]) [1, 0] rfl ?_
      exact b12_like_83 X hc hE _ _ _ hf
    · rw [if_neg h1] at hf
      refine gr_aload_n X dX12_like_45 0 rfl rfl ?_
      refine gf12_52 X wf_RX12_113 dX12_like_46 ?_
      refine gr_iload_n X dX12_like_49 2 rfl rfl ?_
      refine gr_aload_n X dX12_like_50 0 rfl rfl ?_
      refine gf12_36 X wf_RX12_74 dX12_like_51 ?_
      refine gr_bipush 106 X dX12_like_54 (by decide) ?_
      refine gr_iload_n X dX12_like_56 1 rfl rfl ?_
      refine gr_imul X dX12_like_57 ?_
      refine gr_iload_n X dX12_like_58 2 rfl rfl ?_
      refine gr_iadd X dX12_like_59 ?_
      obtain ⟨h6, hf⟩ := gz_cke hf
      refine gr_iaload X gk_R21 (gz_inp h6) dX12_like_60 ?_
      obtain ⟨h7, hf⟩ := gz_cke hf
      obtain ⟨M8, eM8, hf⟩ := gz_lte hf
      refine gr_iastore X gk_R34 (gz_inp h7) eM8 dX12_like_61 ?_
      obtain ⟨v9, ev9, hf⟩ := gz_lte hf
      refine gr_iinc 1 [(2, .int v9), (0, .ref (gx_ad x 0)), (1, .int x1)] X dX12_like_62 2 rfl (by decide) ev9 (by decide) rfl ?_
      refine gr_goto 39 X dX12_like_65 (by decide) ?_
      refine gr_sub (lv' := [(0, .ref (gx_ad x 0)), (1, .int x1), (2, .int v9)]) [1, 2, 0] rfl ?_
      exact ih _ _ _ hf

def f12_like (a0 : Int32) (M0 : gz_M) : Option (Int32 × gz_M) := gz_lt (gz_w M0 0 5 0) fun M1 => gz_bd2 (f12_in a0 0 1 M1) fun v2 M3 => if v2 = 0 then (some ((-1), M3)) else (gz_ck (gz_inb a0 2) <| if (M3.1 22 a0.toNatClampNeg) = 0 then (some ((-2), M3)) else (gz_bd (f12_cutAll 0 M3) fun M8 => gz_bd (f12_layOld M8) fun M10 => f12_like_39 gz_FU a0 0 M10))
set_option maxRecDepth 100000 in
theorem c12_like {pf : Nat → Bool} {l : Launch} {r : Int32} {M0 M' : gz_M} {a0 : Int32} (hf : f12_like a0 M0 = some (r, M')) : gz_CI l gz_cfR yX12_like cX12_like 3 36 .int (fun ad => [.ref (ad 0), .int a0]) pf M0 r M' := by
  refine gz_ofI (by decide +kernel) (fun _ => Nat.le_of_ble_eq_true rfl) (fun x X hc hE => ?_)
  show gz_At x 0 [(0, .ref (gx_ad x 0)), (1, .int a0)] [] M0
  unfold f12_like at hf
  refine gr_aload_n X dX12_like_0 0 rfl rfl ?_
  refine gr_iconst 0 X dX12_like_1 (by decide) ?_
  obtain ⟨M1, eM1, hf⟩ := gz_lte hf
  refine gp12_5 X wf_RX12_123 eM1 dX12_like_2 ?_
  refine gr_iload_n X dX12_like_5 1 rfl rfl ?_
  refine gr_iconst 0 X dX12_like_6 (by decide) ?_
  refine gr_iconst 1 X dX12_like_7 (by decide) ?_
  obtain ⟨v2, M3, q4, hf⟩ := gz_bd2e hf
  refine gr_callSI (asF := fun _ => [.int a0, .int 0, .int 1]) [.int a0, .int 0, .int 1] X (c12_in q4) rfl wm_RX12_133 rfl (by decide) (by decide) rfl (Nat.le_of_ble_eq_true rfl) hc dX12_like_8 ?_
  refine gr_if_ne 16 X dX12_like_11 (by decide) (fun h5 => ?_) (fun h5 => ?_)
  · rw [if_pos h5] at hf
    refine gr_iconst (-1) X dX12_like_14 (by decide) ?_
    exact gz_EIu hE hf rfl dX12_like_15
  · rw [if_neg h5] at hf
    refine gr_aload_n X dX12_like_16 0 rfl rfl ?_
    refine gf12_37 X wf_RX12_77 dX12_like_17 ?_
    refine gr_iload_n X dX12_like_20 1 rfl rfl ?_
    obtain ⟨h6, hf⟩ := gz_cke hf
    refine gr_zaload X gk_R22 (gz_inp h6) dX12_like_21 ?_
    refine gr_if_ne 28 X dX12_like_22 (by decide) (fun h7 => ?_) (fun h7 => ?_)
    · rw [if_pos h7] at hf
      refine gr_bipush (-2) X dX12_like_25 (by decide) ?_
      exact gz_EIu hE hf rfl dX12_like_27
    · rw [if_neg h7] at hf
      refine gr_aload_n X dX12_like_28 0 rfl rfl ?_
      refine gr_iconst 0 X dX12_like_29 (by decide) ?_
      obtain ⟨M8, q9, hf⟩ := gz_bde hf
      refine gr_callV (asF := fun ad => [.ref (ad 0), .int 0]) [.int 0] X (c12_cutAll q9) rfl wm_RX12_274 rfl (X.kd gk_R0).1 ((X.kd gk_R0).2 _ _ _ _) rfl (by decide) (by decide) rfl (Nat.le_of_ble_eq_true rfl) hc dX12_like_30 ?_
      refine gr_aload_n X dX12_like_33 0 rfl rfl ?_
      obtain ⟨M10, q11, hf⟩ := gz_bde hf
      refine gr_callV (asF := fun ad => [.ref (ad 0)]) [] X (c12_layOld q11) rfl wm_RX12_290 rfl (X.kd gk_R0).1 ((X.kd gk_R0).2 _ _ _ _) rfl (by decide) (by decide) rfl (Nat.le_of_ble_eq_true rfl) hc dX12_like_34 ?_
      refine gr_iconst 0 X dX12_like_37 (by decide) ?_
      refine gr_istore_n [(2, .int 0), (0, .ref (gx_ad x 0)), (1, .int a0)] X dX12_like_38 rfl rfl (by decide) rfl ?_
      refine gr_sub (lv' := [(0, .ref (gx_ad x 0)), (1, .int a0), (2, .int 0)]) [1, 2, 0] rfl ?_
      exact b12_like_39 X hc hE _ _ _ _ hf

def f12_undo_26 (pf : Nat → Bool) : Nat → Int32 → gz_M → Option (Int32 × gz_M)
  | 0, _, _ => none
  | n + 1, x1, M0 => if 106 ≤ x1 then (gz_bd (f12_layRules 1 M0) fun M2 => some (M2.1 0 51, M2)) else (gz_ck (gz_inb ((106 * (M0.1 0 51)) + x1) 1060) <| gz_ck (gz_inb x1 106) <| gz_lt (gz_w M0 1 x1.toNatClampNeg (M0.1 33 ((106 * (M0.1 0 51)) + x1).toNatClampNeg)) fun M6 => gz_lt (x1 + 1) fun v7 => f12_undo_26 pf n v7 M6)
theorem b12_undo_26 {x : gz_X} {pf : Nat → Bool} {l : Launch} {r : Int32} {M' : gz_M} (X : gz_Ok x cX12_undo RX12 2 36 gz_cfR pf l) (hc : gx_cells x ≤ (gx_R x).cells ∧ gx_slots x ≤ (gx_R x).slots) (hE : gz_EI x cX12_undo .int r M') : ∀ (n : Nat) (x1 : Int32) (M0 : gz_M), f12_undo_26 pf n x1 M0 = some (r, M') → gz_At x 26 [(0, .ref (gx_ad x 0)), (1, .int x1)] [] M0 := by
  intro n
  induction n with
  | zero =>
    intro x1 M0  hf
    rw [f12_undo_26] at hf
    cases hf
  | succ n ih =>
    intro x1 M0  hf
    rw [f12_undo_26] at hf
    refine gr_iload_n X dX12_undo_26 1 rfl rfl ?_
    refine gr_bipush 106 X dX12_undo_27 (by decide) ?_
    refine gr_icmp_ge 58 X dX12_undo_29 (by decide) (fun h1 => ?_) (fun h1 => ?_)
    · rw [if_pos h1] at hf
      refine gr_aload_n X dX12_undo_58 0 rfl rfl ?_
      refine gr_aload_n X dX12_undo_59 0 rfl rfl ?_
      refine gf12_0 X wf_RX12_9 dX12_undo_60 ?_
      obtain ⟨M2, q3, hf⟩ := gz_bde hf
      refine gr_callV (asF := fun ad => [.ref (ad 0), .ref (ad 1)]) [.ref (gx_ad x 1)] X (c12_layRules gk_R1 q3) rfl wm_RX12_119 rfl (X.kd gk_R0).1 ((X.kd gk_R0).2 _ _ _ _) rfl (by decide) (by decide) rfl (Nat.le_of_ble_eq_true rfl) hc dX12_undo_63 ?_
      refine gr_aload_n X dX12_undo_66 0 rfl rfl ?_
      refine gf12_51 X wf_RX12_338 dX12_undo_67 ?_
      exact gz_EIu hE hf rfl dX12_undo_70
    · rw [if_neg h1] at hf
      refine gr_aload_n X dX12_undo_32 0 rfl rfl ?_
      refine gf12_0 X wf_RX12_9 dX12_undo_33 ?_
      refine gr_iload_n X dX12_undo_36 1 rfl rfl ?_
      refine gr_aload_n X dX12_undo_37 0 rfl rfl ?_
      refine gf12_50 X wf_RX12_110 dX12_undo_38 ?_
      refine gr_bipush 106 X dX12_undo_41 (by decide) ?_
      refine gr_aload_n X dX12_undo_43 0 rfl rfl ?_
      refine gf12_51 X wf_RX12_338 dX12_undo_44 ?_
      refine gr_imul X dX12_undo_47 ?_
      refine gr_iload_n X dX12_undo_48 1 rfl rfl ?_
      refine gr_iadd X dX12_undo_49 ?_
      obtain ⟨h4, hf⟩ := gz_cke hf
      refine gr_iaload X gk_R33 (gz_inp h4) dX12_undo_50 ?_
      obtain ⟨h5, hf⟩ := gz_cke hf
      obtain ⟨M6, eM6, hf⟩ := gz_lte hf
      refine gr_iastore X gk_R1 (gz_inp h5) eM6 dX12_undo_51 ?_
      obtain ⟨v7, ev7, hf⟩ := gz_lte hf
      refine gr_iinc 1 [(1, .int v7), (0, .ref (gx_ad x 0))] X dX12_undo_52 1 rfl (by decide) ev7 (by decide) rfl ?_
      refine gr_goto 26 X dX12_undo_55 (by decide) ?_
      refine gr_sub (lv' := [(0, .ref (gx_ad x 0)), (1, .int v7)]) [1, 0] rfl ?_
      exact ih _ _ hf

def f12_undo (pf : Nat → Bool) (M0 : gz_M) : Option (Int32 × gz_M) := gz_lt (gz_w M0 0 5 0) fun M1 => if (M1.1 0 51) = 0 then (some ((-1), M1)) else (gz_lt (gz_w M1 0 51 ((M1.1 0 51) - 1)) fun M3 => f12_undo_26 pf gz_FU 0 M3)
set_option maxRecDepth 100000 in
theorem c12_undo {pf : Nat → Bool} {l : Launch} {r : Int32} {M0 M' : gz_M} (hf : f12_undo pf M0 = some (r, M')) : gz_CI l gz_cfR yX12_undo cX12_undo 2 36 .int (fun ad => [.ref (ad 0)]) pf M0 r M' := by
  refine gz_ofI (by decide +kernel) (fun _ => Nat.le_of_ble_eq_true rfl) (fun x X hc hE => ?_)
  show gz_At x 0 [(0, .ref (gx_ad x 0))] [] M0
  unfold f12_undo at hf
  refine gr_aload_n X dX12_undo_0 0 rfl rfl ?_
  refine gr_iconst 0 X dX12_undo_1 (by decide) ?_
  obtain ⟨M1, eM1, hf⟩ := gz_lte hf
  refine gp12_5 X wf_RX12_123 eM1 dX12_undo_2 ?_
  refine gr_aload_n X dX12_undo_5 0 rfl rfl ?_
  refine gf12_51 X wf_RX12_338 dX12_undo_6 ?_
  refine gr_if_ne 14 X dX12_undo_9 (by decide) (fun h2 => ?_) (fun h2 => ?_)
  · rw [if_pos h2] at hf
    refine gr_iconst (-1) X dX12_undo_12 (by decide) ?_
    exact gz_EIu hE hf rfl dX12_undo_13
  · rw [if_neg h2] at hf
    refine gr_aload_n X dX12_undo_14 0 rfl rfl ?_
    refine gr_dup X dX12_undo_15 rfl ?_
    refine gf12_51 X wf_RX12_338 dX12_undo_16 ?_
    refine gr_iconst 1 X dX12_undo_19 (by decide) ?_
    refine gr_isub X dX12_undo_20 ?_
    obtain ⟨M3, eM3, hf⟩ := gz_lte hf
    refine gp12_51 X wf_RX12_338 eM3 dX12_undo_21 ?_
    refine gr_iconst 0 X dX12_undo_24 (by decide) ?_
    refine gr_istore_n [(1, .int 0), (0, .ref (gx_ad x 0))] X dX12_undo_25 rfl rfl (by decide) rfl ?_
    refine gr_sub (lv' := [(0, .ref (gx_ad x 0)), (1, .int 0)]) [1, 0] rfl ?_
    exact b12_undo_26 X hc hE _ _ _ hf

def f12_again_27 : Nat → Int32 → Int32 → gz_M → Option (Int32 × gz_M)
  | 0, _, _, _ => none
  | n + 1, x1, x2, M0 => if 106 ≤ x2 then (gz_lt (gz_w M0 0 51 0) fun M2 => gz_bd (f12_layRules 1 M2) fun M3 => some (1, M3)) else (gz_ck (gz_inb ((106 * x1) + x2) 212) <| gz_ck (gz_inb x2 106) <| gz_lt (gz_w M0 1 x2.toNatClampNeg (M0.1 21 ((106 * x1) + x2).toNatClampNeg)) fun M7 => gz_lt (x2 + 1) fun v8 => f12_again_27 n x1 v8 M7)
theorem b12_again_27 {x : gz_X} {pf : Nat → Bool} {l : Launch} {r : Int32} {M' : gz_M} (X : gz_Ok x cX12_again RX12 3 36 gz_cfR pf l) (hc : gx_cells x ≤ (gx_R x).cells ∧ gx_slots x ≤ (gx_R x).slots) (hE : gz_EI x cX12_again .boolean r M') : ∀ (n : Nat) (x1 : Int32) (x2 : Int32) (M0 : gz_M), f12_again_27 n x1 x2 M0 = some (r, M') → gz_At x 27 [(0, .ref (gx_ad x 0)), (1, .int x1), (2, .int x2)] [] M0 := by
  intro n
  induction n with
  | zero =>
    intro x1 x2 M0  hf
    rw [f12_again_27] at hf
    cases hf
  | succ n ih =>
    intro x1 x2 M0  hf
    rw [f12_again_27] at hf
    refine gr_iload_n X dX12_again_27 2 rfl rfl ?_
    refine gr_bipush 106 X dX12_again_28 (by decide) ?_
    refine gr_icmp_ge 56 X dX12_again_30 (by decide) (fun h1 => ?_) (fun h1 => ?_)
    · rw [if_pos h1] at hf
      refine gr_aload_n X dX12_again_56 0 rfl rfl ?_
      refine gr_iconst 0 X dX12_again_57 (by decide) ?_
      obtain ⟨M2, eM2, hf⟩ := gz_lte hf
      refine gp12_51 X wf_RX12_338 eM2 dX12_again_58 ?_
      refine gr_aload_n X dX12_again_61 0 rfl rfl ?_
      refine gr_aload_n X dX12_again_62 0 rfl rfl ?_
      refine gf12_0 X wf_RX12_9 dX12_again_63 ?_
      obtain ⟨M3, q4, hf⟩ := gz_bde hf
      refine gr_callV (asF := fun ad => [.ref (ad 0), .ref (ad 1)]) [.ref (gx_ad x 1)] X (c12_layRules gk_R1 q4) rfl wm_RX12_119 rfl (X.kd gk_R0).1 ((X.kd gk_R0).2 _ _ _ _) rfl (by decide) (by decide) rfl (Nat.le_of_ble_eq_true rfl) hc dX12_again_66 ?_
      refine gr_iconst 1 X dX12_again_69 (by decide) ?_
      exact gz_EIu hE hf rfl dX12_again_70
    · rw [if_neg h1] at hf
      refine gr_aload_n X dX12_again_33 0 rfl rfl ?_
      refine gf12_0 X wf_RX12_9 dX12_again_34 ?_
      refine gr_iload_n X dX12_again_37 2 rfl rfl ?_
      refine gr_aload_n X dX12_again_38 0 rfl rfl ?_
      refine gf12_36 X wf_RX12_74 dX12_again_39 ?_
      refine gr_bipush 106 X dX12_again_42 (by decide) ?_
      refine gr_iload_n X dX12_again_44 1 rfl rfl ?_
      refine gr_imul X dX12_again_45 ?_
      refine gr_iload_n X dX12_again_46 2 rfl rfl ?_
      refine gr_iadd X dX12_again_47 ?_
      obtain ⟨h5, hf⟩ := gz_cke hf
      refine gr_iaload X gk_R21 (gz_inp h5) dX12_again_48 ?_
      obtain ⟨h6, hf⟩ := gz_cke hf
      obtain ⟨M7, eM7, hf⟩ := gz_lte hf
      refine gr_iastore X gk_R1 (gz_inp h6) eM7 dX12_again_49 ?_
      obtain ⟨v8, ev8, hf⟩ := gz_lte hf
      refine gr_iinc 1 [(2, .int v8), (0, .ref (gx_ad x 0)), (1, .int x1)] X dX12_again_50 2 rfl (by decide) ev8 (by decide) rfl ?_
      refine gr_goto 27 X dX12_again_53 (by decide) ?_
      refine gr_sub (lv' := [(0, .ref (gx_ad x 0)), (1, .int x1), (2, .int v8)]) [1, 2, 0] rfl ?_
      exact ih _ _ _ hf

def f12_again (a0 : Int32) (M0 : gz_M) : Option (Int32 × gz_M) := gz_lt (gz_w M0 0 5 0) fun M1 => gz_bd2 (f12_in a0 0 1 M1) fun v2 M3 => if v2 = 0 then (some (0, M3)) else (gz_ck (gz_inb a0 2) <| if (M3.1 22 a0.toNatClampNeg) = 0 then (some (0, M3)) else (f12_again_27 gz_FU a0 0 M3))
set_option maxRecDepth 100000 in
theorem c12_again {pf : Nat → Bool} {l : Launch} {r : Int32} {M0 M' : gz_M} {a0 : Int32} (hf : f12_again a0 M0 = some (r, M')) : gz_CI l gz_cfR yX12_again cX12_again 3 36 .boolean (fun ad => [.ref (ad 0), .int a0]) pf M0 r M' := by
  refine gz_ofI (by decide +kernel) (fun _ => Nat.le_of_ble_eq_true rfl) (fun x X hc hE => ?_)
  show gz_At x 0 [(0, .ref (gx_ad x 0)), (1, .int a0)] [] M0
  unfold f12_again at hf
  refine gr_aload_n X dX12_again_0 0 rfl rfl ?_
  refine gr_iconst 0 X dX12_again_1 (by decide) ?_
  obtain ⟨M1, eM1, hf⟩ := gz_lte hf
  refine gp12_5 X wf_RX12_123 eM1 dX12_again_2 ?_
  refine gr_iload_n X dX12_again_5 1 rfl rfl ?_
  refine gr_iconst 0 X dX12_again_6 (by decide) ?_
  refine gr_iconst 1 X dX12_again_7 (by decide) ?_
  obtain ⟨v2, M3, q4, hf⟩ := gz_bd2e hf
  refine gr_callSI (asF := fun _ => [.int a0, .int 0, .int 1]) [.int a0, .int 0, .int 1] X (c12_in q4) rfl wm_RX12_133 rfl (by decide) (by decide) rfl (Nat.le_of_ble_eq_true rfl) hc dX12_again_8 ?_
  refine gr_if_eq 23 X dX12_again_11 (by decide) (fun h5 => ?_) (fun h5 => ?_)
  · rw [if_pos h5] at hf
    refine gr_iconst 0 X dX12_again_23 (by decide) ?_
    exact gz_EIu hE hf rfl dX12_again_24
  · rw [if_neg h5] at hf
    refine gr_aload_n X dX12_again_14 0 rfl rfl ?_
    refine gf12_37 X wf_RX12_77 dX12_again_15 ?_
    refine gr_iload_n X dX12_again_18 1 rfl rfl ?_
    obtain ⟨h6, hf⟩ := gz_cke hf
    refine gr_zaload X gk_R22 (gz_inp h6) dX12_again_19 ?_
    refine gr_if_ne 25 X dX12_again_20 (by decide) (fun h7 => ?_) (fun h7 => ?_)
    · rw [if_pos h7] at hf
      refine gr_iconst 0 X dX12_again_23 (by decide) ?_
      exact gz_EIu hE hf rfl dX12_again_24
    · rw [if_neg h7] at hf
      refine gr_iconst 0 X dX12_again_25 (by decide) ?_
      refine gr_istore_n [(2, .int 0), (0, .ref (gx_ad x 0)), (1, .int a0)] X dX12_again_26 rfl rfl (by decide) rfl ?_
      refine gr_sub (lv' := [(0, .ref (gx_ad x 0)), (1, .int a0), (2, .int 0)]) [1, 2, 0] rfl ?_
      exact b12_again_27 X hc hE _ _ _ _ hf

def f4_slotAt_34 (pf : Nat → Bool) (x2 : Int32) (M0 : gz_M) : Option (Nat × gz_M) := gz_ck (gz_inb x2 10) <| if pf (100 + (0 + x2.toNatClampNeg)) = true then (gz_ck (pf (0 + x2.toNatClampNeg)) <| some (135 + 4 * (0 + x2.toNatClampNeg), M0)) else (none)
theorem b4_slotAt_34 {x : gz_X} {pf : Nat → Bool} {l : Launch} {r : Nat} {M' : gz_M} (X : gz_Ok x cX4_slotAt RX4 3 3 gz_cfC pf l) (hc : gx_cells x ≤ (gx_R x).cells ∧ gx_slots x ≤ (gx_R x).slots) (hE : gz_ER x cX4_slotAt r M') : ∀ (x2 : Int32) (M0 : gz_M), f4_slotAt_34 pf x2 M0 = some (r, M') → gz_At x 34 [(0, .ref (gx_ad x 131)), (2, .int x2)] [] M0 := by
  intro x2 M0  hf
  rw [f4_slotAt_34] at hf
  refine gr_aload_n X dX4_slotAt_34 0 rfl rfl ?_
  refine gf4_0 X wf_RX4_11 dX4_slotAt_35 ?_
  refine gr_iload_n X dX4_slotAt_38 1 rfl rfl ?_
  obtain ⟨h1, hf⟩ := gz_cke hf
  refine gr_aaldK X gk_C132 (gz_inp h1) dX4_slotAt_39 (fun h2 => ?_) (fun h2 => ?_)
  · rw [if_pos h2] at hf
    obtain ⟨h3, hf⟩ := gz_cke hf
    exact gz_ERu X hE hf (gi_bk (b := 0) h3 (gz_inp h1) (by decide)) dX4_slotAt_40
  · rw [if_neg h2] at hf
    cases hf

def f4_slotAt (pf : Nat → Bool) (a0 : Int32) (M0 : gz_M) : Option (Nat × gz_M) := gz_bd2 (fJ_floorMod ((M0.1 131 1) + a0) 10 M0) fun v1 M2 => gz_ck (gz_inb v1 10) <| if pf (100 + (0 + v1.toNatClampNeg)) = true then (gz_ck (pf (0 + v1.toNatClampNeg)) <| f4_slotAt_34 pf v1 M2) else (none)
set_option maxRecDepth 100000 in
theorem c4_slotAt {pf : Nat → Bool} {l : Launch} {r : Nat} {M0 M' : gz_M} {a0 : Int32} (hf : f4_slotAt pf a0 M0 = some (r, M')) : gz_CR l yX4_slotAt cX4_slotAt 3 3 (.object "LongestTokens$Book") (fun ad => [.ref (ad 131), .int a0]) pf M0 r M' := by
  refine gz_ofR (by decide +kernel) (Or.inl ⟨_, rfl⟩) (fun _ => Nat.le_of_ble_eq_true rfl) (fun x X hc hE => ?_)
  show gz_At x 0 [(0, .ref (gx_ad x 131)), (1, .int a0)] [] M0
  unfold f4_slotAt at hf
  refine gr_aload_n X dX4_slotAt_0 0 rfl rfl ?_
  refine gf4_1 X wf_RX4_17 dX4_slotAt_1 ?_
  refine gr_iload_n X dX4_slotAt_4 1 rfl rfl ?_
  refine gr_iadd X dX4_slotAt_5 ?_
  refine gr_bipush 10 X dX4_slotAt_6 (by decide) ?_
  obtain ⟨v1, M2, q3, hf⟩ := gz_bd2e hf
  refine gr_callSI (asF := fun _ => [.int ((M0.1 131 1) + a0), .int 10]) [.int ((M0.1 131 1) + a0), .int 10] X (cJ_floorMod q3) rfl wm_RX4_32 rfl (by decide) (by decide) rfl (Nat.le_of_ble_eq_true rfl) hc dX4_slotAt_8 ?_
  refine gr_istore_n [(2, .int v1), (0, .ref (gx_ad x 131)), (1, .int a0)] X dX4_slotAt_11 rfl rfl (by decide) rfl ?_
  refine gr_aload_n X dX4_slotAt_12 1 rfl rfl ?_
  refine gf4_0 X wf_RX4_11 dX4_slotAt_13 ?_
  refine gr_iload_n X dX4_slotAt_16 0 rfl rfl ?_
  obtain ⟨h4, hf⟩ := gz_cke hf
  refine gr_aaldK X gk_C132 (gz_inp h4) dX4_slotAt_17 (fun h5 => ?_) (fun h5 => ?_)
  · rw [if_pos h5] at hf
    obtain ⟨h6, hf⟩ := gz_cke hf
    refine gr_ifnonnull 34 X dX4_slotAt_18 (by decide) ?_
    refine gr_sub (lv' := [(0, .ref (gx_ad x 131)), (2, .int v1)]) [1, 0] rfl ?_
    exact b4_slotAt_34 X hc hE _ _ hf
  · rw [if_neg h5] at hf
    refine gr_ifnonnullN X dX4_slotAt_18 ?_
    refine gr_aload_n X dX4_slotAt_21 1 rfl rfl ?_
    refine gf4_0 X wf_RX4_11 dX4_slotAt_22 ?_
    refine gr_iload_n X dX4_slotAt_25 0 rfl rfl ?_
    cases hf

def f4_pop (pf : Nat → Bool) (k0 : Nat) (M0 : gz_M) : Option (Int32 × gz_M) := if 0 < (M0.1 131 2) then (gz_lt (gz_w M0 131 2 ((M0.1 131 2) - 1)) fun M2 => gz_bd2 (f4_slotAt pf (M2.1 131 2) M2) fun v3 M4 => gz_bd (f0_copy k0 v3 M4) fun M6 => some (1, M6)) else (some (0, M0))
set_option maxRecDepth 100000 in
theorem c4_pop {pf : Nat → Bool} {l : Launch} {r : Int32} {M0 M' : gz_M} {k0 : Nat} (hk0 : gz_IsX0 pf k0) (hf : f4_pop pf k0 M0 = some (r, M')) : gz_CI l gz_cfC yX4_pop cX4_pop 2 4 .boolean (fun ad => [.ref (ad 131), .ref (ad k0)]) pf M0 r M' := by
  refine gz_ofI (by decide +kernel) (fun _ => Nat.le_of_ble_eq_true rfl) (fun x X hc hE => ?_)
  show gz_At x 0 [(0, .ref (gx_ad x 131)), (1, .ref (gx_ad x k0))] [] M0
  unfold f4_pop at hf
  refine gr_aload_n X dX4_pop_0 0 rfl rfl ?_
  refine gf4_2 X wf_RX4_21 dX4_pop_1 ?_
  refine gr_if_gt 9 X dX4_pop_4 (by decide) (fun h1 => ?_) (fun h1 => ?_)
  · rw [if_pos h1] at hf
    refine gr_aload_n X dX4_pop_9 0 rfl rfl ?_
    refine gr_dup X dX4_pop_10 rfl ?_
    refine gf4_2 X wf_RX4_21 dX4_pop_11 ?_
    refine gr_iconst 1 X dX4_pop_14 (by decide) ?_
    refine gr_isub X dX4_pop_15 ?_
    obtain ⟨M2, eM2, hf⟩ := gz_lte hf
    refine gp4_2 X wf_RX4_21 eM2 dX4_pop_16 ?_
    refine gr_aload_n X dX4_pop_19 1 rfl rfl ?_
    refine gr_aload_n X dX4_pop_20 0 rfl rfl ?_
    refine gr_aload_n X dX4_pop_21 0 rfl rfl ?_
    refine gf4_2 X wf_RX4_21 dX4_pop_22 ?_
    obtain ⟨v3, M4, q5, hf⟩ := gz_bd2e hf
    refine gr_callR (asF := fun ad => [.ref (ad 131), .int (M2.1 131 2)]) [.int (M2.1 131 2)] X (c4_slotAt q5) rfl wm_RX4_24 rfl (X.kd gk_C131).1 ((X.kd gk_C131).2 _ _ _ _) rfl (by decide) (by decide) rfl (Nat.le_of_ble_eq_true rfl) hc dX4_pop_25 ?_
    intro hv3
    obtain ⟨M6, q7, hf⟩ := gz_bde hf
    refine gr_callV (asF := fun ad => [.ref (ad k0), .ref (ad v3)]) [.ref (gx_ad x v3)] X (c0_copy hk0 hv3 q7) rfl wm_RX4_28 rfl (X.kd (gk_X0o hk0)).1 ((X.kd (gk_X0o hk0)).2 _ _ _ _) rfl (by decide) (by decide) rfl (Nat.le_of_ble_eq_true rfl) hc dX4_pop_28 ?_
    refine gr_iconst 1 X dX4_pop_31 (by decide) ?_
    exact gz_EIu hE hf rfl dX4_pop_32
  · rw [if_neg h1] at hf
    refine gr_iconst 0 X dX4_pop_7 (by decide) ?_
    exact gz_EIu hE hf rfl dX4_pop_8

def f11_like (pf : Nat → Bool) (a0 : Int32) (M0 : gz_M) : Option (Int32 × gz_M) := if a0 < 0 then (some ((-1), M0)) else (if a0 < 2 then (gz_ck (gz_inb a0 2) <| if pf (100 + (10 + a0.toNatClampNeg)) = true then (gz_ck (pf (10 + a0.toNatClampNeg)) <| gz_bd (f1_build 39 (135 + 4 * (10 + a0.toNatClampNeg)) M0) fun M6 => gz_bd (f2_make (gz_cIx (M6.1 0 8)) 39 (7 + 2) M6) fun M8 => gz_lt (gz_w M8 0 15 0) fun M10 => gz_bd (f11_tell ((M10.1 (gz_cIx (M10.1 0 8)) 0).toInt64) M10) fun M11 => gz_bd2 (f2_stuckTokens (gz_cIx (M11.1 0 8)) M11) fun v13 M14 => gz_bd (f11_tell (v13.toInt64) M14) fun M16 => gz_bd2 (f2_alike (gz_cIx (M16.1 0 5)) (gz_cIx (M16.1 0 8)) M16) fun v18 M19 => some (v18, M19)) else (some ((-2), M0))) else (some ((-1), M0)))
set_option maxRecDepth 100000 in
theorem c11_like {pf : Nat → Bool} {l : Launch} {r : Int32} {M0 M' : gz_M} {a0 : Int32} (hf : f11_like pf a0 M0 = some (r, M')) : gz_CI l gz_cfC yX11_like cX11_like 3 6 .int (fun ad => [.ref (ad 0), .int a0]) pf M0 r M' := by
  refine gz_ofI (by decide +kernel) (fun _ => Nat.le_of_ble_eq_true rfl) (fun x X hc hE => ?_)
  show gz_At x 0 [(0, .ref (gx_ad x 0)), (1, .int a0)] [] M0
  unfold f11_like at hf
  refine gr_iload_n X dX11_like_0 1 rfl rfl ?_
  refine gr_if_lt 9 X dX11_like_1 (by decide) (fun h1 => ?_) (fun h1 => ?_)
  · rw [if_pos h1] at hf
    refine gr_iconst (-1) X dX11_like_9 (by decide) ?_
    exact gz_EIu hE hf rfl dX11_like_10
  · rw [if_neg h1] at hf
    refine gr_iload_n X dX11_like_4 1 rfl rfl ?_
    refine gr_iconst 2 X dX11_like_5 (by decide) ?_
    refine gr_icmp_lt 11 X dX11_like_6 (by decide) (fun h2 => ?_) (fun h2 => ?_)
    · rw [if_pos h2] at hf
      refine gr_aload_n X dX11_like_11 0 rfl rfl ?_
      refine gf11_13 X wf_RX11_92 dX11_like_12 ?_
      refine gr_iload_n X dX11_like_15 1 rfl rfl ?_
      obtain ⟨h3, hf⟩ := gz_cke hf
      refine gr_aaldK X gk_C133 (gz_inp h3) dX11_like_16 (fun h4 => ?_) (fun h4 => ?_)
      · rw [if_pos h4] at hf
        obtain ⟨h5, hf⟩ := gz_cke hf
        refine gr_astore_n [(2, .ref (gx_ad x (135 + 4 * (10 + a0.toNatClampNeg)))), (0, .ref (gx_ad x 0)), (1, .int a0)] X dX11_like_17 rfl (by decide) rfl ?_
        refine gr_aload_n X dX11_like_18 0 rfl rfl ?_
        refine gr_ifnonnull 25 X dX11_like_19 (by decide) ?_
        refine gr_aload_n X dX11_like_25 1 rfl rfl ?_
        refine gf11_2 X wf_RX11_26 dX11_like_26 ?_
        refine gr_aload_n X dX11_like_29 1 rfl rfl ?_
        refine gf11_6 X wf_RX11_51 dX11_like_30 ?_
        refine gr_aload_n X dX11_like_33 0 rfl rfl ?_
        obtain ⟨M6, q7, hf⟩ := gz_bde hf
        refine gr_callV (asF := fun ad => [.ref (ad 4), .ref (ad 39), .ref (ad (135 + 4 * (10 + a0.toNatClampNeg)))]) [.ref (gx_ad x 39), .ref (gx_ad x (135 + 4 * (10 + a0.toNatClampNeg)))] X (c1_build gi_otherTable (gi_bk (b := 10) h5 (gz_inp h3) (by decide)) q7) rfl wm_RX11_226 rfl (X.kd gk_C4).1 ((X.kd gk_C4).2 _ _ _ _) rfl (by decide) (by decide) rfl (Nat.le_of_ble_eq_true rfl) hc dX11_like_34 ?_
        refine gr_aload_n X dX11_like_37 1 rfl rfl ?_
        refine gf11_8 X wf_RX11_61 dX11_like_38 ?_
        refine gr_aload_n X dX11_like_41 1 rfl rfl ?_
        refine gf11_6 X wf_RX11_51 dX11_like_42 ?_
        refine gr_aload_n X dX11_like_45 1 rfl rfl ?_
        refine gf11_3 X wf_RX11_33 dX11_like_46 ?_
        refine gf0_2 X (gk_X0o gi_now) wf_RX11_141 dX11_like_49 ?_
        obtain ⟨M8, q9, hf⟩ := gz_bde hf
        refine gr_callV (asF := fun ad => [.ref (ad (gz_cIx (M6.1 0 8))), .ref (ad 39), .ref (ad (7 + 2))]) [.ref (gx_ad x 39), .ref (gx_ad x (7 + 2))] X (c2_make (gi_cut _) gi_otherTable (gi_X0line gi_now) q9) rfl wm_RX11_230 rfl (X.kd (gk_X2o (gi_cut _))).1 ((X.kd (gk_X2o (gi_cut _))).2 _ _ _ _) rfl (by decide) (by decide) rfl (Nat.le_of_ble_eq_true rfl) hc dX11_like_52 ?_
        refine gr_aload_n X dX11_like_55 1 rfl rfl ?_
        refine gr_iconst 0 X dX11_like_56 (by decide) ?_
        obtain ⟨M10, eM10, hf⟩ := gz_lte hf
        refine gp11_15 X wf_RX11_100 eM10 dX11_like_57 ?_
        refine gr_aload_n X dX11_like_60 1 rfl rfl ?_
        refine gr_aload_n X dX11_like_61 1 rfl rfl ?_
        refine gf11_8 X wf_RX11_61 dX11_like_62 ?_
        refine gf2_0 X (gk_X2o (gi_cut _)) wf_RX11_190 dX11_like_65 ?_
        refine gr_i2l X dX11_like_68 ?_
        obtain ⟨M11, q12, hf⟩ := gz_bde hf
        refine gr_callV (asF := fun ad => [.ref (ad 0), .long ((M10.1 (gz_cIx (M10.1 0 8)) 0).toInt64)]) [.long ((M10.1 (gz_cIx (M10.1 0 8)) 0).toInt64)] X (c11_tell q12) rfl wm_RX11_196 rfl (X.kd gk_C0).1 ((X.kd gk_C0).2 _ _ _ _) rfl (by decide) (by decide) rfl (Nat.le_of_ble_eq_true rfl) hc dX11_like_69 ?_
        refine gr_aload_n X dX11_like_72 1 rfl rfl ?_
        refine gr_aload_n X dX11_like_73 1 rfl rfl ?_
        refine gf11_8 X wf_RX11_61 dX11_like_74 ?_
        obtain ⟨v13, M14, q15, hf⟩ := gz_bd2e hf
        refine gr_callI (asF := fun ad => [.ref (ad (gz_cIx (M11.1 0 8)))]) [] X (c2_stuckTokens (gi_cut _) q15) rfl wm_RX11_222 rfl (X.kd (gk_X2o (gi_cut _))).1 ((X.kd (gk_X2o (gi_cut _))).2 _ _ _ _) rfl (by decide) (by decide) rfl (Nat.le_of_ble_eq_true rfl) hc dX11_like_77 ?_
        refine gr_i2l X dX11_like_80 ?_
        obtain ⟨M16, q17, hf⟩ := gz_bde hf
        refine gr_callV (asF := fun ad => [.ref (ad 0), .long (v13.toInt64)]) [.long (v13.toInt64)] X (c11_tell q17) rfl wm_RX11_196 rfl (X.kd gk_C0).1 ((X.kd gk_C0).2 _ _ _ _) rfl (by decide) (by decide) rfl (Nat.le_of_ble_eq_true rfl) hc dX11_like_81 ?_
        refine gr_aload_n X dX11_like_84 1 rfl rfl ?_
        refine gf11_5 X wf_RX11_47 dX11_like_85 ?_
        refine gr_aload_n X dX11_like_88 1 rfl rfl ?_
        refine gf11_8 X wf_RX11_61 dX11_like_89 ?_
        obtain ⟨v18, M19, q20, hf⟩ := gz_bd2e hf
        refine gr_callI (asF := fun ad => [.ref (ad (gz_cIx (M16.1 0 5))), .ref (ad (gz_cIx (M16.1 0 8)))]) [.ref (gx_ad x (gz_cIx (M16.1 0 8)))] X (c2_alike (gi_cut _) (gi_cut _) q20) rfl wm_RX11_234 rfl (X.kd (gk_X2o (gi_cut _))).1 ((X.kd (gk_X2o (gi_cut _))).2 _ _ _ _) rfl (by decide) (by decide) rfl (Nat.le_of_ble_eq_true rfl) hc dX11_like_92 ?_
        exact gz_EIu hE hf rfl dX11_like_95
      · rw [if_neg h4] at hf
        refine gr_astoreN_n [(2, .null), (0, .ref (gx_ad x 0)), (1, .int a0)] X dX11_like_17 rfl (by decide) rfl ?_
        refine gr_aloadN_n X dX11_like_18 0 rfl rfl ?_
        refine gr_ifnonnullN X dX11_like_19 ?_
        refine gr_bipush (-2) X dX11_like_22 (by decide) ?_
        exact gz_EIu hE hf rfl dX11_like_24
    · rw [if_neg h2] at hf
      refine gr_iconst (-1) X dX11_like_9 (by decide) ?_
      exact gz_EIu hE hf rfl dX11_like_10

def f11_again (pf : Nat → Bool) (a0 : Int32) (M0 : gz_M) : Option (Int32 × gz_M) := if a0 < 0 then (some (0, M0)) else (if a0 < 2 then (gz_ck (gz_inb a0 2) <| if pf (100 + (10 + a0.toNatClampNeg)) = true then (gz_ck (pf (10 + a0.toNatClampNeg)) <| gz_bd (f0_copy 7 (135 + 4 * (10 + a0.toNatClampNeg)) M0) fun M6 => gz_bd (f4_forget M6) fun M8 => gz_bd (f11_refresh M8) fun M10 => some (1, M10)) else (some (0, M0))) else (some (0, M0)))
set_option maxRecDepth 100000 in
theorem c11_again {pf : Nat → Bool} {l : Launch} {r : Int32} {M0 M' : gz_M} {a0 : Int32} (hf : f11_again pf a0 M0 = some (r, M')) : gz_CI l gz_cfC yX11_again cX11_again 3 7 .boolean (fun ad => [.ref (ad 0), .int a0]) pf M0 r M' := by
  refine gz_ofI (by decide +kernel) (fun _ => Nat.le_of_ble_eq_true rfl) (fun x X hc hE => ?_)
  show gz_At x 0 [(0, .ref (gx_ad x 0)), (1, .int a0)] [] M0
  unfold f11_again at hf
  refine gr_iload_n X dX11_again_0 1 rfl rfl ?_
  refine gr_if_lt 9 X dX11_again_1 (by decide) (fun h1 => ?_) (fun h1 => ?_)
  · rw [if_pos h1] at hf
    refine gr_iconst 0 X dX11_again_9 (by decide) ?_
    exact gz_EIu hE hf rfl dX11_again_10
  · rw [if_neg h1] at hf
    refine gr_iload_n X dX11_again_4 1 rfl rfl ?_
    refine gr_iconst 2 X dX11_again_5 (by decide) ?_
    refine gr_icmp_lt 11 X dX11_again_6 (by decide) (fun h2 => ?_) (fun h2 => ?_)
    · rw [if_pos h2] at hf
      refine gr_aload_n X dX11_again_11 0 rfl rfl ?_
      refine gf11_13 X wf_RX11_92 dX11_again_12 ?_
      refine gr_iload_n X dX11_again_15 1 rfl rfl ?_
      obtain ⟨h3, hf⟩ := gz_cke hf
      refine gr_aaldK X gk_C133 (gz_inp h3) dX11_again_16 (fun h4 => ?_) (fun h4 => ?_)
      · rw [if_pos h4] at hf
        obtain ⟨h5, hf⟩ := gz_cke hf
        refine gr_astore_n [(2, .ref (gx_ad x (135 + 4 * (10 + a0.toNatClampNeg)))), (0, .ref (gx_ad x 0)), (1, .int a0)] X dX11_again_17 rfl (by decide) rfl ?_
        refine gr_aload_n X dX11_again_18 0 rfl rfl ?_
        refine gr_ifnonnull 24 X dX11_again_19 (by decide) ?_
        refine gr_aload_n X dX11_again_24 1 rfl rfl ?_
        refine gf11_3 X wf_RX11_33 dX11_again_25 ?_
        refine gr_aload_n X dX11_again_28 0 rfl rfl ?_
        obtain ⟨M6, q7, hf⟩ := gz_bde hf
        refine gr_callV (asF := fun ad => [.ref (ad 7), .ref (ad (135 + 4 * (10 + a0.toNatClampNeg)))]) [.ref (gx_ad x (135 + 4 * (10 + a0.toNatClampNeg)))] X (c0_copy gi_now (gi_bk (b := 10) h5 (gz_inp h3) (by decide)) q7) rfl wm_RX11_367 rfl (X.kd (gk_X0o gi_now)).1 ((X.kd (gk_X0o gi_now)).2 _ _ _ _) rfl (by decide) (by decide) rfl (Nat.le_of_ble_eq_true rfl) hc dX11_again_29 ?_
        refine gr_aload_n X dX11_again_32 1 rfl rfl ?_
        refine gf11_12 X wf_RX11_88 dX11_again_33 ?_
        obtain ⟨M8, q9, hf⟩ := gz_bde hf
        refine gr_callV (asF := fun ad => [.ref (ad 131)]) [] X (c4_forget q9) rfl wm_RX11_369 rfl (X.kd gk_C131).1 ((X.kd gk_C131).2 _ _ _ _) rfl (by decide) (by decide) rfl (Nat.le_of_ble_eq_true rfl) hc dX11_again_36 ?_
        refine gr_aload_n X dX11_again_39 1 rfl rfl ?_
        obtain ⟨M10, q11, hf⟩ := gz_bde hf
        refine gr_callV (asF := fun ad => [.ref (ad 0)]) [] X (c11_refresh q11) rfl wm_RX11_129 rfl (X.kd gk_C0).1 ((X.kd gk_C0).2 _ _ _ _) rfl (by decide) (by decide) rfl (Nat.le_of_ble_eq_true rfl) hc dX11_again_40 ?_
        refine gr_iconst 1 X dX11_again_43 (by decide) ?_
        exact gz_EIu hE hf rfl dX11_again_44
      · rw [if_neg h4] at hf
        refine gr_astoreN_n [(2, .null), (0, .ref (gx_ad x 0)), (1, .int a0)] X dX11_again_17 rfl (by decide) rfl ?_
        refine gr_aloadN_n X dX11_again_18 0 rfl rfl ?_
        refine gr_ifnonnullN X dX11_again_19 ?_
        refine gr_iconst 0 X dX11_again_22 (by decide) ?_
        exact gz_EIu hE hf rfl dX11_again_23
    · rw [if_neg h2] at hf
      refine gr_iconst 0 X dX11_again_9 (by decide) ?_
      exact gz_EIu hE hf rfl dX11_again_10

def f11_undo (pf : Nat → Bool) (M0 : gz_M) : Option (Int32 × gz_M) := gz_bd2 (f4_pop pf 7 M0) fun v1 M2 => if v1 = 0 then (some ((-1), M2)) else (gz_bd (f11_refresh M2) fun M5 => some (M5.1 131 2, M5))
set_option maxRecDepth 100000 in
theorem c11_undo {pf : Nat → Bool} {l : Launch} {r : Int32} {M0 M' : gz_M} (hf : f11_undo pf M0 = some (r, M')) : gz_CI l gz_cfC yX11_undo cX11_undo 1 7 .int (fun ad => [.ref (ad 0)]) pf M0 r M' := by
  refine gz_ofI (by decide +kernel) (fun _ => Nat.le_of_ble_eq_true rfl) (fun x X hc hE => ?_)
  show gz_At x 0 [(0, .ref (gx_ad x 0))] [] M0
  unfold f11_undo at hf
  refine gr_aload_n X dX11_undo_0 0 rfl rfl ?_
  refine gf11_12 X wf_RX11_88 dX11_undo_1 ?_
  refine gr_aload_n X dX11_undo_4 0 rfl rfl ?_
  refine gf11_3 X wf_RX11_33 dX11_undo_5 ?_
  obtain ⟨v1, M2, q3, hf⟩ := gz_bd2e hf
  refine gr_callI (asF := fun ad => [.ref (ad 131), .ref (ad 7)]) [.ref (gx_ad x 7)] X (c4_pop gi_now q3) rfl wm_RX11_353 rfl (X.kd gk_C131).1 ((X.kd gk_C131).2 _ _ _ _) rfl (by decide) (by decide) rfl (Nat.le_of_ble_eq_true rfl) hc dX11_undo_8 ?_
  refine gr_if_ne 16 X dX11_undo_11 (by decide) (fun h4 => ?_) (fun h4 => ?_)
  · rw [if_pos h4] at hf
    refine gr_iconst (-1) X dX11_undo_14 (by decide) ?_
    exact gz_EIu hE hf rfl dX11_undo_15
  · rw [if_neg h4] at hf
    refine gr_aload_n X dX11_undo_16 0 rfl rfl ?_
    obtain ⟨M5, q6, hf⟩ := gz_bde hf
    refine gr_callV (asF := fun ad => [.ref (ad 0)]) [] X (c11_refresh q6) rfl wm_RX11_129 rfl (X.kd gk_C0).1 ((X.kd gk_C0).2 _ _ _ _) rfl (by decide) (by decide) rfl (Nat.le_of_ble_eq_true rfl) hc dX11_undo_17 ?_
    refine gr_aload_n X dX11_undo_20 0 rfl rfl ?_
    refine gf11_12 X wf_RX11_88 dX11_undo_21 ?_
    refine gf4_2 X wf_RX11_357 dX11_undo_24 ?_
    exact gz_EIu hE hf rfl dX11_undo_27

