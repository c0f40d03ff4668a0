theorem wf_RX11_12 : gz_FL RX11 12 RX11 "text" "LLongestTokens$Text;" := Or.inl (gz_in 429 (by decide +kernel) rfl)
theorem wc_yX10_addFour : Cond.instanceMethod yX10_addFour ∈ gz_TB ∧ Cond.selects RX10 yX10_addFour yX10_addFour ∈ gz_TB ∧ Cond.initialized yX10_addFour.cls ∈ gz_TB ∧ Cond.code yX10_addFour cX10_addFour 3 (some (.boolean)) ∈ gz_TB ∧ (yX10_addFour.cls ≠ "java/lang/invoke/MethodHandle" ∧ yX10_addFour.cls ≠ "java/lang/invoke/VarHandle" ∧ (parseMethodDescriptor yX10_addFour.desc).map (fun d => d.parameters.length) = some 1) := ⟨gz_in 484 (by decide +kernel) rfl, gz_in 485 (by decide +kernel) rfl, gz_in 86 (by decide +kernel) rfl, gz_in 486 (by decide +kernel) rfl, by decide +kernel⟩
theorem wm_RX11_104 : gz_WV RX11 104 RX10 yX10_addFour cX10_addFour 3 1 (some (.boolean)) := ⟨Or.inl (gz_in 483 (by decide +kernel) rfl), wc_yX10_addFour⟩
theorem wf_RX11_108 : gz_FL RX11 108 RX10 "length" "I" := Or.inr ⟨"LongestTokens", gz_inN 123 (by decide +kernel) rfl⟩
theorem wc_yX10_shorten : Cond.instanceMethod yX10_shorten ∈ gz_TB ∧ Cond.selects RX10 yX10_shorten yX10_shorten ∈ gz_TB ∧ Cond.initialized yX10_shorten.cls ∈ gz_TB ∧ Cond.code yX10_shorten cX10_shorten 2 (some (.boolean)) ∈ gz_TB ∧ (yX10_shorten.cls ≠ "java/lang/invoke/MethodHandle" ∧ yX10_shorten.cls ≠ "java/lang/invoke/VarHandle" ∧ (parseMethodDescriptor yX10_shorten.desc).map (fun d => d.parameters.length) = some 1) := ⟨gz_in 492 (by decide +kernel) rfl, gz_in 493 (by decide +kernel) rfl, gz_in 86 (by decide +kernel) rfl, gz_in 494 (by decide +kernel) rfl, by decide +kernel⟩
theorem wm_RX11_111 : gz_WV RX11 111 RX10 yX10_shorten cX10_shorten 2 1 (some (.boolean)) := ⟨Or.inl (gz_in 491 (by decide +kernel) rfl), wc_yX10_shorten⟩
theorem wf_RX11_47 : gz_FL RX11 47 RX11 "cutting" "LLongestTokens$Cutting;" := Or.inl (gz_in 434 (by decide +kernel) rfl)
theorem wf_RX11_40 : gz_FL RX11 40 RX11 "table" "LLongestTokens$Rules;" := Or.inl (gz_in 433 (by decide +kernel) rfl)
theorem wf_RX11_33 : gz_FL RX11 33 RX11 "now" "LLongestTokens$Book;" := Or.inl (gz_in 432 (by decide +kernel) rfl)
theorem wf_RX11_141 : gz_FL RX11 141 RX0 "line" "LLongestTokens$Line;" := Or.inr ⟨"LongestTokens", gz_inN 198 (by decide +kernel) rfl⟩
theorem wc_yX2_make : Cond.instanceMethod yX2_make ∈ gz_TB ∧ Cond.selects RX2 yX2_make yX2_make ∈ gz_TB ∧ Cond.initialized yX2_make.cls ∈ gz_TB ∧ Cond.code yX2_make cX2_make 6 none ∈ gz_TB ∧ (yX2_make.cls ≠ "java/lang/invoke/MethodHandle" ∧ yX2_make.cls ≠ "java/lang/invoke/VarHandle" ∧ (parseMethodDescriptor yX2_make.desc).map (fun d => d.parameters.length) = some 2) := ⟨gz_in 641 (by decide +kernel) rfl, gz_in 642 (by decide +kernel) rfl, gz_in 92 (by decide +kernel) rfl, gz_in 643 (by decide +kernel) rfl, by decide +kernel⟩
theorem wm_RX11_230 : gz_WV RX11 230 RX2 yX2_make cX2_make 6 2 none := ⟨Or.inl (gz_in 640 (by decide +kernel) rfl), wc_yX2_make⟩
theorem wf_RX11_150 : gz_FL RX11 150 RX5 "length" "I" := Or.inr ⟨"LongestTokens", gz_inN 187 (by decide +kernel) rfl⟩
theorem wc_yX11_recut : Cond.instanceMethod yX11_recut ∈ gz_TB ∧ Cond.selects RX11 yX11_recut yX11_recut ∈ gz_TB ∧ Cond.initialized yX11_recut.cls ∈ gz_TB ∧ Cond.code yX11_recut cX11_recut 1 none ∈ gz_TB ∧ (yX11_recut.cls ≠ "java/lang/invoke/MethodHandle" ∧ yX11_recut.cls ≠ "java/lang/invoke/VarHandle" ∧ (parseMethodDescriptor yX11_recut.desc).map (fun d => d.parameters.length) = some 0) := ⟨gz_in 638 (by decide +kernel) rfl, gz_in 16 (by decide +kernel) rfl, gz_in 85 (by decide +kernel) rfl, gz_in 639 (by decide +kernel) rfl, by decide +kernel⟩
theorem wm_RX11_147 : gz_WV RX11 147 RX11 yX11_recut cX11_recut 1 0 none := ⟨Or.inl (gz_in 636 (by decide +kernel) rfl), wc_yX11_recut⟩
theorem wc_yX11_narrowed : Cond.static yX11_narrowed ∈ gz_TB ∧ Cond.initialized yX11_narrowed.cls ∈ gz_TB ∧ Cond.code yX11_narrowed cX11_narrowed 2 (some (.int)) ∈ gz_TB ∧ (yX11_narrowed.cls ≠ "java/lang/invoke/MethodHandle" ∧ yX11_narrowed.cls ≠ "java/lang/invoke/VarHandle" ∧ (parseMethodDescriptor yX11_narrowed.desc).map (fun d => d.parameters.length) = some 2) := ⟨gz_in 705 (by decide +kernel) rfl, gz_in 85 (by decide +kernel) rfl, gz_in 706 (by decide +kernel) rfl, by decide +kernel⟩
theorem wm_RX11_177 : gz_WS RX11 177 yX11_narrowed cX11_narrowed 2 2 (some (.int)) := ⟨Or.inl (gz_in 704 (by decide +kernel) rfl), wc_yX11_narrowed⟩
theorem wc_yJ9_floorMod_7cf53 : Cond.static yJ9_floorMod_7cf53 ∈ gz_TB ∧ Cond.initialized yJ9_floorMod_7cf53.cls ∈ gz_TB ∧ Cond.code yJ9_floorMod_7cf53 cJ9_floorMod_7cf53 3 (some (.int)) ∈ gz_TB ∧ (yJ9_floorMod_7cf53.cls ≠ "java/lang/invoke/MethodHandle" ∧ yJ9_floorMod_7cf53.cls ≠ "java/lang/invoke/VarHandle" ∧ (parseMethodDescriptor yJ9_floorMod_7cf53.desc).map (fun d => d.parameters.length) = some 2) := ⟨gz_in 548 (by decide +kernel) rfl, gz_in 98 (by decide +kernel) rfl, gz_in 549 (by decide +kernel) rfl, by decide +kernel⟩
theorem wm_RX11_181 : gz_WS RX11 181 yJ9_floorMod_7cf53 cJ9_floorMod_7cf53 3 2 (some (.int)) := ⟨Or.inl (gz_in 707 (by decide +kernel) rfl), wc_yJ9_floorMod_7cf53⟩
theorem wm_RX11_186 : gz_WV RX11 186 RX5 yX5_insert cX5_insert 4 2 none := ⟨Or.inl (gz_in 708 (by decide +kernel) rfl), wc_yX5_insert⟩
theorem wf_RX11_100 : gz_FL RX11 100 RX11 "told" "I" := Or.inl (gz_in 444 (by decide +kernel) rfl)
theorem wf_RX11_96 : gz_FL RX11 96 RX11 "numbers" "[J" := Or.inl (gz_in 443 (by decide +kernel) rfl)
theorem wf_RX11_190 : gz_FL RX11 190 RX2 "size" "I" := Or.inr ⟨"LongestTokens", gz_inN 278 (by decide +kernel) rfl⟩
theorem wf_RX11_193 : gz_FL RX11 193 RX2 "behind" "[I" := Or.inr ⟨"LongestTokens", gz_inN 289 (by decide +kernel) rfl⟩
theorem wc_yX11_tell : Cond.instanceMethod yX11_tell ∈ gz_TB ∧ Cond.selects RX11 yX11_tell yX11_tell ∈ gz_TB ∧ Cond.initialized yX11_tell.cls ∈ gz_TB ∧ Cond.code yX11_tell cX11_tell 3 none ∈ gz_TB ∧ (yX11_tell.cls ≠ "java/lang/invoke/MethodHandle" ∧ yX11_tell.cls ≠ "java/lang/invoke/VarHandle" ∧ (parseMethodDescriptor yX11_tell.desc).map (fun d => d.parameters.length) = some 1) := ⟨gz_in 715 (by decide +kernel) rfl, gz_in 18 (by decide +kernel) rfl, gz_in 85 (by decide +kernel) rfl, gz_in 716 (by decide +kernel) rfl, by decide +kernel⟩
theorem wm_RX11_196 : gz_WV RX11 196 RX11 yX11_tell cX11_tell 3 1 none := ⟨Or.inl (gz_in 713 (by decide +kernel) rfl), wc_yX11_tell⟩
theorem wf_RX11_210 : gz_FL RX11 210 RX2 "depth" "[I" := Or.inr ⟨"LongestTokens", gz_inN 299 (by decide +kernel) rfl⟩
theorem wf_RX11_213 : gz_FL RX11 213 RX2 "pile" "[I" := Or.inr ⟨"LongestTokens", gz_inN 301 (by decide +kernel) rfl⟩
theorem wc_yX2_holder : Cond.instanceMethod yX2_holder ∈ gz_TB ∧ Cond.selects RX2 yX2_holder yX2_holder ∈ gz_TB ∧ Cond.initialized yX2_holder.cls ∈ gz_TB ∧ Cond.code yX2_holder cX2_holder 3 (some (.int)) ∈ gz_TB ∧ (yX2_holder.cls ≠ "java/lang/invoke/MethodHandle" ∧ yX2_holder.cls ≠ "java/lang/invoke/VarHandle" ∧ (parseMethodDescriptor yX2_holder.desc).map (fun d => d.parameters.length) = some 1) := ⟨gz_in 726 (by decide +kernel) rfl, gz_in 727 (by decide +kernel) rfl, gz_in 92 (by decide +kernel) rfl, gz_in 728 (by decide +kernel) rfl, by decide +kernel⟩
theorem wm_RX11_216 : gz_WV RX11 216 RX2 yX2_holder cX2_holder 3 1 (some (.int)) := ⟨Or.inl (gz_in 725 (by decide +kernel) rfl), wc_yX2_holder⟩
theorem wc_yX2_stuckTokens : Cond.instanceMethod yX2_stuckTokens ∈ gz_TB ∧ Cond.selects RX2 yX2_stuckTokens yX2_stuckTokens ∈ gz_TB ∧ Cond.initialized yX2_stuckTokens.cls ∈ gz_TB ∧ Cond.code yX2_stuckTokens cX2_stuckTokens 3 (some (.int)) ∈ gz_TB ∧ (yX2_stuckTokens.cls ≠ "java/lang/invoke/MethodHandle" ∧ yX2_stuckTokens.cls ≠ "java/lang/invoke/VarHandle" ∧ (parseMethodDescriptor yX2_stuckTokens.desc).map (fun d => d.parameters.length) = some 0) := ⟨gz_in 734 (by decide +kernel) rfl, gz_in 735 (by decide +kernel) rfl, gz_in 92 (by decide +kernel) rfl, gz_in 736 (by decide +kernel) rfl, by decide +kernel⟩
theorem wm_RX11_222 : gz_WV RX11 222 RX2 yX2_stuckTokens cX2_stuckTokens 3 0 (some (.int)) := ⟨Or.inl (gz_in 733 (by decide +kernel) rfl), wc_yX2_stuckTokens⟩
theorem wf_RX11_200 : gz_FL RX11 200 RX2 "rule" "[I" := Or.inr ⟨"LongestTokens", gz_inN 283 (by decide +kernel) rfl⟩
theorem wf_RX11_203 : gz_FL RX11 203 RX2 "first" "[I" := Or.inr ⟨"LongestTokens", gz_inN 286 (by decide +kernel) rfl⟩
theorem wf_RX11_219 : gz_FL RX11 219 RX2 "dead" "[I" := Or.inr ⟨"LongestTokens", gz_inN 294 (by decide +kernel) rfl⟩
theorem wf_RX11_135 : gz_FL RX11 135 RX7 "total" "I" := Or.inr ⟨"LongestTokens", gz_inN 217 (by decide +kernel) rfl⟩
theorem wm_RX11_238 : gz_WS RX11 238 yX11_isMode cX11_isMode 1 1 (some (.boolean)) := ⟨Or.inl (gz_in 753 (by decide +kernel) rfl), wc_yX11_isMode⟩
theorem wf_RX11_209 : gz_FL RX11 209 RX2 "mode" "[I" := Or.inr ⟨"LongestTokens", gz_inN 297 (by decide +kernel) rfl⟩
theorem wm_RX11_170 : gz_WV RX11 170 RX5 yX5_has cX5_has 2 1 (some (.boolean)) := ⟨Or.inl (gz_in 758 (by decide +kernel) rfl), wc_yX5_has⟩
theorem wf_RX11_241 : gz_FL RX11 241 RX2 "readTo" "[I" := Or.inr ⟨"LongestTokens", gz_inN 292 (by decide +kernel) rfl⟩
theorem wf_RX11_67 : gz_FL RX11 67 RX11 "pairs" "LLongestTokens$Pairs;" := Or.inl (gz_in 438 (by decide +kernel) rfl)
theorem wc_yX6_remember : Cond.instanceMethod yX6_remember ∈ gz_TB ∧ Cond.selects RX6 yX6_remember yX6_remember ∈ gz_TB ∧ Cond.initialized yX6_remember.cls ∈ gz_TB ∧ Cond.code yX6_remember cX6_remember 6 none ∈ gz_TB ∧ (yX6_remember.cls ≠ "java/lang/invoke/MethodHandle" ∧ yX6_remember.cls ≠ "java/lang/invoke/VarHandle" ∧ (parseMethodDescriptor yX6_remember.desc).map (fun d => d.parameters.length) = some 3) := ⟨gz_in 767 (by decide +kernel) rfl, gz_in 768 (by decide +kernel) rfl, gz_in 93 (by decide +kernel) rfl, gz_in 769 (by decide +kernel) rfl, by decide +kernel⟩
theorem wm_RX11_244 : gz_WV RX11 244 RX6 yX6_remember cX6_remember 6 3 none := ⟨Or.inl (gz_in 766 (by decide +kernel) rfl), wc_yX6_remember⟩
theorem wf_RX11_248 : gz_FL RX11 248 RX6 "signsRead" "I" := Or.inr ⟨"LongestTokens", gz_inN 358 (by decide +kernel) rfl⟩
theorem wf_RX11_251 : gz_FL RX11 251 RX6 "total" "I" := Or.inr ⟨"LongestTokens", gz_inN 356 (by decide +kernel) rfl⟩
theorem wc_yX2_signsRead : Cond.instanceMethod yX2_signsRead ∈ gz_TB ∧ Cond.selects RX2 yX2_signsRead yX2_signsRead ∈ gz_TB ∧ Cond.initialized yX2_signsRead.cls ∈ gz_TB ∧ Cond.code yX2_signsRead cX2_signsRead 3 (some (.int)) ∈ gz_TB ∧ (yX2_signsRead.cls ≠ "java/lang/invoke/MethodHandle" ∧ yX2_signsRead.cls ≠ "java/lang/invoke/VarHandle" ∧ (parseMethodDescriptor yX2_signsRead.desc).map (fun d => d.parameters.length) = some 0) := ⟨gz_in 795 (by decide +kernel) rfl, gz_in 796 (by decide +kernel) rfl, gz_in 92 (by decide +kernel) rfl, gz_in 797 (by decide +kernel) rfl, by decide +kernel⟩
theorem wm_RX11_252 : gz_WV RX11 252 RX2 yX2_signsRead cX2_signsRead 3 0 (some (.int)) := ⟨Or.inl (gz_in 794 (by decide +kernel) rfl), wc_yX2_signsRead⟩
theorem wc_yX6_walk : Cond.instanceMethod yX6_walk ∈ gz_TB ∧ Cond.selects RX6 yX6_walk yX6_walk ∈ gz_TB ∧ Cond.initialized yX6_walk.cls ∈ gz_TB ∧ Cond.code yX6_walk cX6_walk 9 none ∈ gz_TB ∧ (yX6_walk.cls ≠ "java/lang/invoke/MethodHandle" ∧ yX6_walk.cls ≠ "java/lang/invoke/VarHandle" ∧ (parseMethodDescriptor yX6_walk.desc).map (fun d => d.parameters.length) = some 3) := ⟨gz_in 803 (by decide +kernel) rfl, gz_in 804 (by decide +kernel) rfl, gz_in 93 (by decide +kernel) rfl, gz_in 805 (by decide +kernel) rfl, by decide +kernel⟩
theorem wm_RX11_254 : gz_WV RX11 254 RX6 yX6_walk cX6_walk 9 3 none := ⟨Or.inl (gz_in 802 (by decide +kernel) rfl), wc_yX6_walk⟩
theorem wc_yX6_mostTimes : Cond.instanceMethod yX6_mostTimes ∈ gz_TB ∧ Cond.selects RX6 yX6_mostTimes yX6_mostTimes ∈ gz_TB ∧ Cond.initialized yX6_mostTimes.cls ∈ gz_TB ∧ Cond.code yX6_mostTimes cX6_mostTimes 4 (some (.int)) ∈ gz_TB ∧ (yX6_mostTimes.cls ≠ "java/lang/invoke/MethodHandle" ∧ yX6_mostTimes.cls ≠ "java/lang/invoke/VarHandle" ∧ (parseMethodDescriptor yX6_mostTimes.desc).map (fun d => d.parameters.length) = some 0) := ⟨gz_in 807 (by decide +kernel) rfl, gz_in 808 (by decide +kernel) rfl, gz_in 93 (by decide +kernel) rfl, gz_in 809 (by decide +kernel) rfl, by decide +kernel⟩
theorem wm_RX11_257 : gz_WV RX11 257 RX6 yX6_mostTimes cX6_mostTimes 4 0 (some (.int)) := ⟨Or.inl (gz_in 806 (by decide +kernel) rfl), wc_yX6_mostTimes⟩
theorem wc_yX6_repeated : Cond.instanceMethod yX6_repeated ∈ gz_TB ∧ Cond.selects RX6 yX6_repeated yX6_repeated ∈ gz_TB ∧ Cond.initialized yX6_repeated.cls ∈ gz_TB ∧ Cond.code yX6_repeated cX6_repeated 4 (some (.int)) ∈ gz_TB ∧ (yX6_repeated.cls ≠ "java/lang/invoke/MethodHandle" ∧ yX6_repeated.cls ≠ "java/lang/invoke/VarHandle" ∧ (parseMethodDescriptor yX6_repeated.desc).map (fun d => d.parameters.length) = some 0) := ⟨gz_in 812 (by decide +kernel) rfl, gz_in 813 (by decide +kernel) rfl, gz_in 93 (by decide +kernel) rfl, gz_in 814 (by decide +kernel) rfl, by decide +kernel⟩
theorem wm_RX11_260 : gz_WV RX11 260 RX6 yX6_repeated cX6_repeated 4 0 (some (.int)) := ⟨Or.inl (gz_in 811 (by decide +kernel) rfl), wc_yX6_repeated⟩
theorem wf_RX11_61 : gz_FL RX11 61 RX11 "otherCutting" "LLongestTokens$Cutting;" := Or.inl (gz_in 437 (by decide +kernel) rfl)
theorem wm_RX11_263 : gz_WV RX11 263 RX2 yX2_readFrom cX2_readFrom 9 4 none := ⟨Or.inl (gz_in 819 (by decide +kernel) rfl), wc_yX2_readFrom⟩
theorem wf_RX11_267 : gz_FL RX11 267 RX2 "foundRule" "I" := Or.inr ⟨"LongestTokens", gz_inN 305 (by decide +kernel) rfl⟩
theorem wf_RX11_270 : gz_FL RX11 270 RX2 "foundBehind" "I" := Or.inr ⟨"LongestTokens", gz_inN 307 (by decide +kernel) rfl⟩
theorem wc_yX11_isStretch : Cond.instanceMethod yX11_isStretch ∈ gz_TB ∧ Cond.selects RX11 yX11_isStretch yX11_isStretch ∈ gz_TB ∧ Cond.initialized yX11_isStretch.cls ∈ gz_TB ∧ Cond.code yX11_isStretch cX11_isStretch 3 (some (.boolean)) ∈ gz_TB ∧ (yX11_isStretch.cls ≠ "java/lang/invoke/MethodHandle" ∧ yX11_isStretch.cls ≠ "java/lang/invoke/VarHandle" ∧ (parseMethodDescriptor yX11_isStretch.desc).map (fun d => d.parameters.length) = some 2) := ⟨gz_in 826 (by decide +kernel) rfl, gz_in 23 (by decide +kernel) rfl, gz_in 85 (by decide +kernel) rfl, gz_in 827 (by decide +kernel) rfl, by decide +kernel⟩
theorem wm_RX11_273 : gz_WV RX11 273 RX11 yX11_isStretch cX11_isStretch 3 2 (some (.boolean)) := ⟨Or.inl (gz_in 824 (by decide +kernel) rfl), wc_yX11_isStretch⟩
theorem wc_yX7_standing : Cond.instanceMethod yX7_standing ∈ gz_TB ∧ Cond.selects RX7 yX7_standing yX7_standing ∈ gz_TB ∧ Cond.initialized yX7_standing.cls ∈ gz_TB ∧ Cond.code yX7_standing cX7_standing 8 (some (.int)) ∈ gz_TB ∧ (yX7_standing.cls ≠ "java/lang/invoke/MethodHandle" ∧ yX7_standing.cls ≠ "java/lang/invoke/VarHandle" ∧ (parseMethodDescriptor yX7_standing.desc).map (fun d => d.parameters.length) = some 4) := ⟨gz_in 829 (by decide +kernel) rfl, gz_in 830 (by decide +kernel) rfl, gz_in 91 (by decide +kernel) rfl, gz_in 831 (by decide +kernel) rfl, by decide +kernel⟩
theorem wm_RX11_277 : gz_WV RX11 277 RX7 yX7_standing cX7_standing 8 4 (some (.int)) := ⟨Or.inl (gz_in 828 (by decide +kernel) rfl), wc_yX7_standing⟩
theorem wc_yX7_matchingNothing : Cond.instanceMethod yX7_matchingNothing ∈ gz_TB ∧ Cond.selects RX7 yX7_matchingNothing yX7_matchingNothing ∈ gz_TB ∧ Cond.initialized yX7_matchingNothing.cls ∈ gz_TB ∧ Cond.code yX7_matchingNothing cX7_matchingNothing 4 (some (.int)) ∈ gz_TB ∧ (yX7_matchingNothing.cls ≠ "java/lang/invoke/MethodHandle" ∧ yX7_matchingNothing.cls ≠ "java/lang/invoke/VarHandle" ∧ (parseMethodDescriptor yX7_matchingNothing.desc).map (fun d => d.parameters.length) = some 1) := ⟨gz_in 837 (by decide +kernel) rfl, gz_in 838 (by decide +kernel) rfl, gz_in 91 (by decide +kernel) rfl, gz_in 839 (by decide +kernel) rfl, by decide +kernel⟩
theorem wm_RX11_281 : gz_WV RX11 281 RX7 yX7_matchingNothing cX7_matchingNothing 4 1 (some (.int)) := ⟨Or.inl (gz_in 836 (by decide +kernel) rfl), wc_yX7_matchingNothing⟩
theorem wc_yX7_matching : Cond.instanceMethod yX7_matching ∈ gz_TB ∧ Cond.selects RX7 yX7_matching yX7_matching ∈ gz_TB ∧ Cond.initialized yX7_matching.cls ∈ gz_TB ∧ Cond.code yX7_matching cX7_matching 5 (some (.int)) ∈ gz_TB ∧ (yX7_matching.cls ≠ "java/lang/invoke/MethodHandle" ∧ yX7_matching.cls ≠ "java/lang/invoke/VarHandle" ∧ (parseMethodDescriptor yX7_matching.desc).map (fun d => d.parameters.length) = some 2) := ⟨gz_in 841 (by decide +kernel) rfl, gz_in 842 (by decide +kernel) rfl, gz_in 91 (by decide +kernel) rfl, gz_in 843 (by decide +kernel) rfl, by decide +kernel⟩
theorem wm_RX11_284 : gz_WV RX11 284 RX7 yX7_matching cX7_matching 5 2 (some (.int)) := ⟨Or.inl (gz_in 840 (by decide +kernel) rfl), wc_yX7_matching⟩
theorem wc_yX11_firstOf : Cond.static yX11_firstOf ∈ gz_TB ∧ Cond.initialized yX11_firstOf.cls ∈ gz_TB ∧ Cond.code yX11_firstOf cX11_firstOf 2 (some (.int)) ∈ gz_TB ∧ (yX11_firstOf.cls ≠ "java/lang/invoke/MethodHandle" ∧ yX11_firstOf.cls ≠ "java/lang/invoke/VarHandle" ∧ (parseMethodDescriptor yX11_firstOf.desc).map (fun d => d.parameters.length) = some 1) := ⟨gz_in 845 (by decide +kernel) rfl, gz_in 85 (by decide +kernel) rfl, gz_in 846 (by decide +kernel) rfl, by decide +kernel⟩
theorem wm_RX11_287 : gz_WS RX11 287 yX11_firstOf cX11_firstOf 2 1 (some (.int)) := ⟨Or.inl (gz_in 844 (by decide +kernel) rfl), wc_yX11_firstOf⟩
theorem wm_RX11_290 : gz_WV RX11 290 RX7 yX7_after cX7_after 5 2 (some (.int)) := ⟨Or.inl (gz_in 851 (by decide +kernel) rfl), wc_yX7_after⟩
theorem wc_yX7_signsTakenBy : Cond.instanceMethod yX7_signsTakenBy ∈ gz_TB ∧ Cond.selects RX7 yX7_signsTakenBy yX7_signsTakenBy ∈ gz_TB ∧ Cond.initialized yX7_signsTakenBy.cls ∈ gz_TB ∧ Cond.code yX7_signsTakenBy cX7_signsTakenBy 5 (some (.int)) ∈ gz_TB ∧ (yX7_signsTakenBy.cls ≠ "java/lang/invoke/MethodHandle" ∧ yX7_signsTakenBy.cls ≠ "java/lang/invoke/VarHandle" ∧ (parseMethodDescriptor yX7_signsTakenBy.desc).map (fun d => d.parameters.length) = some 2) := ⟨gz_in 853 (by decide +kernel) rfl, gz_in 854 (by decide +kernel) rfl, gz_in 91 (by decide +kernel) rfl, gz_in 855 (by decide +kernel) rfl, by decide +kernel⟩
theorem wm_RX11_293 : gz_WV RX11 293 RX7 yX7_signsTakenBy cX7_signsTakenBy 5 2 (some (.int)) := ⟨Or.inl (gz_in 852 (by decide +kernel) rfl), wc_yX7_signsTakenBy⟩
theorem wc_yJ6_bitCount_0f7a4 : Cond.static yJ6_bitCount_0f7a4 ∈ gz_TB ∧ Cond.initialized yJ6_bitCount_0f7a4.cls ∈ gz_TB ∧ Cond.code yJ6_bitCount_0f7a4 cJ6_bitCount_0f7a4 1 (some (.int)) ∈ gz_TB ∧ (yJ6_bitCount_0f7a4.cls ≠ "java/lang/invoke/MethodHandle" ∧ yJ6_bitCount_0f7a4.cls ≠ "java/lang/invoke/VarHandle" ∧ (parseMethodDescriptor yJ6_bitCount_0f7a4.desc).map (fun d => d.parameters.length) = some 1) := ⟨gz_in 857 (by decide +kernel) rfl, gz_in 105 (by decide +kernel) rfl, gz_in 858 (by decide +kernel) rfl, by decide +kernel⟩
theorem wm_RX11_296 : gz_WS RX11 296 yJ6_bitCount_0f7a4 cJ6_bitCount_0f7a4 1 1 (some (.int)) := ⟨Or.inl (gz_in 856 (by decide +kernel) rfl), wc_yJ6_bitCount_0f7a4⟩
theorem wf_RX11_74 : gz_FL RX11 74 RX11 "search" "LLongestTokens$Search;" := Or.inl (gz_in 439 (by decide +kernel) rfl)
theorem wc_yX8_explore : Cond.instanceMethod yX8_explore ∈ gz_TB ∧ Cond.selects RX8 yX8_explore yX8_explore ∈ gz_TB ∧ Cond.initialized yX8_explore.cls ∈ gz_TB ∧ Cond.code yX8_explore cX8_explore 4 none ∈ gz_TB ∧ (yX8_explore.cls ≠ "java/lang/invoke/MethodHandle" ∧ yX8_explore.cls ≠ "java/lang/invoke/VarHandle" ∧ (parseMethodDescriptor yX8_explore.desc).map (fun d => d.parameters.length) = some 2) := ⟨gz_in 867 (by decide +kernel) rfl, gz_in 868 (by decide +kernel) rfl, gz_in 94 (by decide +kernel) rfl, gz_in 869 (by decide +kernel) rfl, by decide +kernel⟩
theorem wm_RX11_301 : gz_WV RX11 301 RX8 yX8_explore cX8_explore 4 2 none := ⟨Or.inl (gz_in 866 (by decide +kernel) rfl), wc_yX8_explore⟩
theorem wf_RX11_305 : gz_FL RX11 305 RX8 "size" "I" := Or.inr ⟨"LongestTokens", gz_inN 382 (by decide +kernel) rfl⟩
theorem wf_RX11_306 : gz_FL RX11 306 RX8 "queue" "[I" := Or.inr ⟨"LongestTokens", gz_inN 377 (by decide +kernel) rfl⟩
theorem wm_RX11_309 : gz_WV RX11 309 RX7 yX7_winner cX7_winner 4 2 (some (.int)) := ⟨Or.inl (gz_in 878 (by decide +kernel) rfl), wc_yX7_winner⟩
theorem wc_yX8_trace : Cond.instanceMethod yX8_trace ∈ gz_TB ∧ Cond.selects RX8 yX8_trace yX8_trace ∈ gz_TB ∧ Cond.initialized yX8_trace.cls ∈ gz_TB ∧ Cond.code yX8_trace cX8_trace 5 (some (.int)) ∈ gz_TB ∧ (yX8_trace.cls ≠ "java/lang/invoke/MethodHandle" ∧ yX8_trace.cls ≠ "java/lang/invoke/VarHandle" ∧ (parseMethodDescriptor yX8_trace.desc).map (fun d => d.parameters.length) = some 1) := ⟨gz_in 888 (by decide +kernel) rfl, gz_in 889 (by decide +kernel) rfl, gz_in 94 (by decide +kernel) rfl, gz_in 890 (by decide +kernel) rfl, by decide +kernel⟩
theorem wm_RX11_381 : gz_WV RX11 381 RX8 yX8_trace cX8_trace 5 1 (some (.int)) := ⟨Or.inl (gz_in 887 (by decide +kernel) rfl), wc_yX8_trace⟩
theorem wf_RX11_384 : gz_FL RX11 384 RX8 "path" "[I" := Or.inr ⟨"LongestTokens", gz_inN 380 (by decide +kernel) rfl⟩
theorem wf_RX11_154 : gz_FL RX11 154 RX7 "mode" "[I" := Or.inr ⟨"LongestTokens", gz_inN 220 (by decide +kernel) rfl⟩
theorem wc_yX11_tellRowTo : Cond.instanceMethod yX11_tellRowTo ∈ gz_TB ∧ Cond.selects RX11 yX11_tellRowTo yX11_tellRowTo ∈ gz_TB ∧ Cond.initialized yX11_tellRowTo.cls ∈ gz_TB ∧ Cond.code yX11_tellRowTo cX11_tellRowTo 4 (some (.int)) ∈ gz_TB ∧ (yX11_tellRowTo.cls ≠ "java/lang/invoke/MethodHandle" ∧ yX11_tellRowTo.cls ≠ "java/lang/invoke/VarHandle" ∧ (parseMethodDescriptor yX11_tellRowTo.desc).map (fun d => d.parameters.length) = some 1) := ⟨gz_in 885 (by decide +kernel) rfl, gz_in 25 (by decide +kernel) rfl, gz_in 85 (by decide +kernel) rfl, gz_in 886 (by decide +kernel) rfl, by decide +kernel⟩
theorem wm_RX11_312 : gz_WV RX11 312 RX11 yX11_tellRowTo cX11_tellRowTo 4 1 (some (.int)) := ⟨Or.inl (gz_in 883 (by decide +kernel) rfl), wc_yX11_tellRowTo⟩
theorem wf_RX11_315 : gz_FL RX11 315 RX7 "last" "[I" := Or.inr ⟨"LongestTokens", gz_inN 234 (by decide +kernel) rfl⟩
theorem wf_RX11_81 : gz_FL RX11 81 RX11 "splits" "LLongestTokens$Splits;" := Or.inl (gz_in 440 (by decide +kernel) rfl)
theorem wc_yX9_make : Cond.instanceMethod yX9_make ∈ gz_TB ∧ Cond.selects RX9 yX9_make yX9_make ∈ gz_TB ∧ Cond.initialized yX9_make.cls ∈ gz_TB ∧ Cond.code yX9_make cX9_make 7 none ∈ gz_TB ∧ (yX9_make.cls ≠ "java/lang/invoke/MethodHandle" ∧ yX9_make.cls ≠ "java/lang/invoke/VarHandle" ∧ (parseMethodDescriptor yX9_make.desc).map (fun d => d.parameters.length) = some 4) := ⟨gz_in 904 (by decide +kernel) rfl, gz_in 905 (by decide +kernel) rfl, gz_in 95 (by decide +kernel) rfl, gz_in 906 (by decide +kernel) rfl, by decide +kernel⟩
theorem wm_RX11_318 : gz_WV RX11 318 RX9 yX9_make cX9_make 7 4 none := ⟨Or.inl (gz_in 903 (by decide +kernel) rfl), wc_yX9_make⟩
theorem wf_RX11_320 : gz_FL RX11 320 RX9 "rows" "[I" := Or.inr ⟨"LongestTokens", gz_inN 402 (by decide +kernel) rfl⟩
theorem wf_RX11_323 : gz_FL RX11 323 RX9 "cuts" "[I" := Or.inr ⟨"LongestTokens", gz_inN 400 (by decide +kernel) rfl⟩
theorem wk_RX11_326 : Cond.constant RX11 326 1000000 ∈ gz_TB := gz_in 919 (by decide +kernel) rfl
theorem wl_RX11_327 : Cond.methodLink RX11 327 Lib.Math.min.name ∈ gz_TB := gz_in 920 (by decide +kernel) rfl
theorem wc_yX9_leads : Cond.instanceMethod yX9_leads ∈ gz_TB ∧ Cond.selects RX9 yX9_leads yX9_leads ∈ gz_TB ∧ Cond.initialized yX9_leads.cls ∈ gz_TB ∧ Cond.code yX9_leads cX9_leads 3 (some (.boolean)) ∈ gz_TB ∧ (yX9_leads.cls ≠ "java/lang/invoke/MethodHandle" ∧ yX9_leads.cls ≠ "java/lang/invoke/VarHandle" ∧ (parseMethodDescriptor yX9_leads.desc).map (fun d => d.parameters.length) = some 2) := ⟨gz_in 926 (by decide +kernel) rfl, gz_in 927 (by decide +kernel) rfl, gz_in 95 (by decide +kernel) rfl, gz_in 928 (by decide +kernel) rfl, by decide +kernel⟩
theorem wm_RX11_330 : gz_WV RX11 330 RX9 yX9_leads cX9_leads 3 2 (some (.boolean)) := ⟨Or.inl (gz_in 925 (by decide +kernel) rfl), wc_yX9_leads⟩
theorem wc_yX2_aheadOf : Cond.instanceMethod yX2_aheadOf ∈ gz_TB ∧ Cond.selects RX2 yX2_aheadOf yX2_aheadOf ∈ gz_TB ∧ Cond.initialized yX2_aheadOf.cls ∈ gz_TB ∧ Cond.code yX2_aheadOf cX2_aheadOf 4 (some (.int)) ∈ gz_TB ∧ (yX2_aheadOf.cls ≠ "java/lang/invoke/MethodHandle" ∧ yX2_aheadOf.cls ≠ "java/lang/invoke/VarHandle" ∧ (parseMethodDescriptor yX2_aheadOf.desc).map (fun d => d.parameters.length) = some 1) := ⟨gz_in 934 (by decide +kernel) rfl, gz_in 935 (by decide +kernel) rfl, gz_in 92 (by decide +kernel) rfl, gz_in 936 (by decide +kernel) rfl, by decide +kernel⟩
theorem wm_RX11_333 : gz_WV RX11 333 RX2 yX2_aheadOf cX2_aheadOf 4 1 (some (.int)) := ⟨Or.inl (gz_in 933 (by decide +kernel) rfl), wc_yX2_aheadOf⟩
theorem wf_RX11_57 : gz_FL RX11 57 RX11 "otherLine" "LLongestTokens$Line;" := Or.inl (gz_in 436 (by decide +kernel) rfl)
theorem wm_RX11_340 : gz_WV RX11 340 RX5 yX5_copy cX5_copy 2 1 none := ⟨Or.inl (gz_in 996 (by decide +kernel) rfl), wc_yX5_copy⟩
theorem wm_RX11_344 : gz_WV RX11 344 RX5 yX5_put cX5_put 3 2 none := ⟨Or.inl (gz_in 997 (by decide +kernel) rfl), wc_yX5_put⟩
theorem wk_RX11_404 : Cond.constant RX11 404 1103515245 ∈ gz_TB := gz_in 1033 (by decide +kernel) rfl
theorem wc_yX11_nextOf : Cond.static yX11_nextOf ∈ gz_TB ∧ Cond.initialized yX11_nextOf.cls ∈ gz_TB ∧ Cond.code yX11_nextOf cX11_nextOf 1 (some (.int)) ∈ gz_TB ∧ (yX11_nextOf.cls ≠ "java/lang/invoke/MethodHandle" ∧ yX11_nextOf.cls ≠ "java/lang/invoke/VarHandle" ∧ (parseMethodDescriptor yX11_nextOf.desc).map (fun d => d.parameters.length) = some 1) := ⟨gz_in 1031 (by decide +kernel) rfl, gz_in 85 (by decide +kernel) rfl, gz_in 1032 (by decide +kernel) rfl, by decide +kernel⟩
theorem wm_RX11_358 : gz_WS RX11 358 yX11_nextOf cX11_nextOf 1 1 (some (.int)) := ⟨Or.inl (gz_in 1030 (by decide +kernel) rfl), wc_yX11_nextOf⟩
theorem wc_yX11_drawn : Cond.static yX11_drawn ∈ gz_TB ∧ Cond.initialized yX11_drawn.cls ∈ gz_TB ∧ Cond.code yX11_drawn cX11_drawn 2 (some (.int)) ∈ gz_TB ∧ (yX11_drawn.cls ≠ "java/lang/invoke/MethodHandle" ∧ yX11_drawn.cls ≠ "java/lang/invoke/VarHandle" ∧ (parseMethodDescriptor yX11_drawn.desc).map (fun d => d.parameters.length) = some 2) := ⟨gz_in 1035 (by decide +kernel) rfl, gz_in 85 (by decide +kernel) rfl, gz_in 1036 (by decide +kernel) rfl, by decide +kernel⟩
theorem wm_RX11_361 : gz_WS RX11 361 yX11_drawn cX11_drawn 2 2 (some (.int)) := ⟨Or.inl (gz_in 1034 (by decide +kernel) rfl), wc_yX11_drawn⟩
theorem wc_yX5_change : Cond.instanceMethod yX5_change ∈ gz_TB ∧ Cond.selects RX5 yX5_change yX5_change ∈ gz_TB ∧ Cond.initialized yX5_change.cls ∈ gz_TB ∧ Cond.code yX5_change cX5_change 4 none ∈ gz_TB ∧ (yX5_change.cls ≠ "java/lang/invoke/MethodHandle" ∧ yX5_change.cls ≠ "java/lang/invoke/VarHandle" ∧ (parseMethodDescriptor yX5_change.desc).map (fun d => d.parameters.length) = some 3) := ⟨gz_in 960 (by decide +kernel) rfl, gz_in 961 (by decide +kernel) rfl, gz_in 90 (by decide +kernel) rfl, gz_in 962 (by decide +kernel) rfl, by decide +kernel⟩
theorem wm_RX11_364 : gz_WV RX11 364 RX5 yX5_change cX5_change 4 3 none := ⟨Or.inl (gz_in 959 (by decide +kernel) rfl), wc_yX5_change⟩
theorem wf_RX11_88 : gz_FL RX11 88 RX11 "history" "LLongestTokens$History;" := Or.inl (gz_in 441 (by decide +kernel) rfl)
theorem wf_RX11_357 : gz_FL RX11 357 RX4 "size" "I" := Or.inr ⟨"LongestTokens", gz_inN 421 (by decide +kernel) rfl⟩
theorem wf_RX11_372 : gz_FL RX11 372 RX2 "most" "I" := Or.inr ⟨"LongestTokens", gz_inN 280 (by decide +kernel) rfl⟩
theorem wc_yX7_lettersOfAll : Cond.instanceMethod yX7_lettersOfAll ∈ gz_TB ∧ Cond.selects RX7 yX7_lettersOfAll yX7_lettersOfAll ∈ gz_TB ∧ Cond.initialized yX7_lettersOfAll.cls ∈ gz_TB ∧ Cond.code yX7_lettersOfAll cX7_lettersOfAll 3 (some (.int)) ∈ gz_TB ∧ (yX7_lettersOfAll.cls ≠ "java/lang/invoke/MethodHandle" ∧ yX7_lettersOfAll.cls ≠ "java/lang/invoke/VarHandle" ∧ (parseMethodDescriptor yX7_lettersOfAll.desc).map (fun d => d.parameters.length) = some 0) := ⟨gz_in 1055 (by decide +kernel) rfl, gz_in 1056 (by decide +kernel) rfl, gz_in 91 (by decide +kernel) rfl, gz_in 1057 (by decide +kernel) rfl, by decide +kernel⟩
theorem wm_RX11_375 : gz_WV RX11 375 RX7 yX7_lettersOfAll cX7_lettersOfAll 3 0 (some (.int)) := ⟨Or.inl (gz_in 1054 (by decide +kernel) rfl), wc_yX7_lettersOfAll⟩
theorem wc_yX7_modesWithRules : Cond.instanceMethod yX7_modesWithRules ∈ gz_TB ∧ Cond.selects RX7 yX7_modesWithRules yX7_modesWithRules ∈ gz_TB ∧ Cond.initialized yX7_modesWithRules.cls ∈ gz_TB ∧ Cond.code yX7_modesWithRules cX7_modesWithRules 3 (some (.int)) ∈ gz_TB ∧ (yX7_modesWithRules.cls ≠ "java/lang/invoke/MethodHandle" ∧ yX7_modesWithRules.cls ≠ "java/lang/invoke/VarHandle" ∧ (parseMethodDescriptor yX7_modesWithRules.desc).map (fun d => d.parameters.length) = some 0) := ⟨gz_in 1059 (by decide +kernel) rfl, gz_in 1060 (by decide +kernel) rfl, gz_in 91 (by decide +kernel) rfl, gz_in 1061 (by decide +kernel) rfl, by decide +kernel⟩
theorem wm_RX11_378 : gz_WV RX11 378 RX7 yX7_modesWithRules cX7_modesWithRules 3 0 (some (.int)) := ⟨Or.inl (gz_in 1058 (by decide +kernel) rfl), wc_yX7_modesWithRules⟩
theorem wf_RX11_26 : gz_FL RX11 26 RX11 "builder" "LLongestTokens$Builder;" := Or.inl (gz_in 431 (by decide +kernel) rfl)
theorem wc_yX1_build : Cond.instanceMethod yX1_build ∈ gz_TB ∧ Cond.selects RX1 yX1_build yX1_build ∈ gz_TB ∧ Cond.initialized yX1_build.cls ∈ gz_TB ∧ Cond.code yX1_build cX1_build 6 none ∈ gz_TB ∧ (yX1_build.cls ≠ "java/lang/invoke/MethodHandle" ∧ yX1_build.cls ≠ "java/lang/invoke/VarHandle" ∧ (parseMethodDescriptor yX1_build.desc).map (fun d => d.parameters.length) = some 2) := ⟨gz_in 572 (by decide +kernel) rfl, gz_in 573 (by decide +kernel) rfl, gz_in 88 (by decide +kernel) rfl, gz_in 574 (by decide +kernel) rfl, by decide +kernel⟩
theorem wm_RX11_226 : gz_WV RX11 226 RX1 yX1_build cX1_build 6 2 none := ⟨Or.inl (gz_in 571 (by decide +kernel) rfl), wc_yX1_build⟩
theorem wc_yX2_endingAt : Cond.instanceMethod yX2_endingAt ∈ gz_TB ∧ Cond.selects RX2 yX2_endingAt yX2_endingAt ∈ gz_TB ∧ Cond.initialized yX2_endingAt.cls ∈ gz_TB ∧ Cond.code yX2_endingAt cX2_endingAt 3 (some (.int)) ∈ gz_TB ∧ (yX2_endingAt.cls ≠ "java/lang/invoke/MethodHandle" ∧ yX2_endingAt.cls ≠ "java/lang/invoke/VarHandle" ∧ (parseMethodDescriptor yX2_endingAt.desc).map (fun d => d.parameters.length) = some 1) := ⟨gz_in 977 (by decide +kernel) rfl, gz_in 978 (by decide +kernel) rfl, gz_in 92 (by decide +kernel) rfl, gz_in 979 (by decide +kernel) rfl, by decide +kernel⟩
theorem wm_RX11_393 : gz_WV RX11 393 RX2 yX2_endingAt cX2_endingAt 3 1 (some (.int)) := ⟨Or.inl (gz_in 976 (by decide +kernel) rfl), wc_yX2_endingAt⟩
theorem wc_yX2_hasModesOf : Cond.instanceMethod yX2_hasModesOf ∈ gz_TB ∧ Cond.selects RX2 yX2_hasModesOf yX2_hasModesOf ∈ gz_TB ∧ Cond.initialized yX2_hasModesOf.cls ∈ gz_TB ∧ Cond.code yX2_hasModesOf cX2_hasModesOf 4 (some (.boolean)) ∈ gz_TB ∧ (yX2_hasModesOf.cls ≠ "java/lang/invoke/MethodHandle" ∧ yX2_hasModesOf.cls ≠ "java/lang/invoke/VarHandle" ∧ (parseMethodDescriptor yX2_hasModesOf.desc).map (fun d => d.parameters.length) = some 3) := ⟨gz_in 981 (by decide +kernel) rfl, gz_in 982 (by decide +kernel) rfl, gz_in 92 (by decide +kernel) rfl, gz_in 983 (by decide +kernel) rfl, by decide +kernel⟩
theorem wm_RX11_396 : gz_WV RX11 396 RX2 yX2_hasModesOf cX2_hasModesOf 4 3 (some (.boolean)) := ⟨Or.inl (gz_in 980 (by decide +kernel) rfl), wc_yX2_hasModesOf⟩
def f11_sign (a0 : Int32) (M0 : gz_M) : Option (Int32 × gz_M) := gz_bd2 (f10_addFour a0 M0) fun v1 M2 => if v1 = 0 then (some ((-1), M2)) else (some (M2.1 1 1, M2))
set_option maxRecDepth 100000 in
theorem c11_sign {pf : Nat → Bool} {l : Launch} {r : Int32} {M0 M' : gz_M} {a0 : Int32} (hf : f11_sign a0 M0 = some (r, M')) : gz_CI l gz_cfC yX11_sign cX11_sign 2 2 .int (fun ad => [.ref (ad 0), .int a0]) pf M0 r M' := by
  refine gz_ofI (by decide +kernel) (fun _ => Nat.le_of_ble_eq_true rfl) (fun x X hc hE => ?_)
  show gz_At x 0 [(0, .ref (gx_ad x 0)), (1, .int a0)] [] M0
  unfold f11_sign at hf
  refine gr_aload_n X dX11_sign_0 0 rfl rfl ?_
  refine gf11_0 X wf_RX11_12 dX11_sign_1 ?_
  refine gr_iload_n X dX11_sign_4 1 rfl rfl ?_
  obtain ⟨v1, M2, q3, hf⟩ := gz_bd2e hf
  refine gr_callI (asF := fun ad => [.ref (ad 1), .int a0]) [.int a0] X (c10_addFour q3) rfl wm_RX11_104 rfl (X.kd gk_C1).1 ((X.kd gk_C1).2 _ _ _ _) rfl (by decide) (by decide) rfl (Nat.le_of_ble_eq_true rfl) hc dX11_sign_5 ?_
  refine gr_if_eq 21 X dX11_sign_8 (by decide) (fun h4 => ?_) (fun h4 => ?_)
  · rw [if_pos h4] at hf
    refine gr_iconst (-1) X dX11_sign_21 (by decide) ?_
    exact gz_EIu hE hf rfl dX11_sign_22
  · rw [if_neg h4] at hf
    refine gr_aload_n X dX11_sign_11 0 rfl rfl ?_
    refine gf11_0 X wf_RX11_12 dX11_sign_12 ?_
    refine gf10_1 X wf_RX11_108 dX11_sign_15 ?_
    refine gr_goto 22 X dX11_sign_18 (by decide) ?_
    exact gz_EIu hE hf rfl dX11_sign_22

def f11_end (a0 : Int32) (M0 : gz_M) : Option (Int32 × gz_M) := gz_bd2 (f10_shorten a0 M0) fun v1 M2 => gz_ck (gz_b01 v1) <| some (v1, M2)
set_option maxRecDepth 100000 in
theorem c11_end {pf : Nat → Bool} {l : Launch} {r : Int32} {M0 M' : gz_M} {a0 : Int32} (hf : f11_end a0 M0 = some (r, M')) : gz_CI l gz_cfC yX11_end cX11_end 2 2 .boolean (fun ad => [.ref (ad 0), .int a0]) pf M0 r M' := by
  refine gz_ofI (by decide +kernel) (fun _ => Nat.le_of_ble_eq_true rfl) (fun x X hc hE => ?_)
  show gz_At x 0 [(0, .ref (gx_ad x 0)), (1, .int a0)] [] M0
  unfold f11_end at hf
  refine gr_aload_n X dX11_end_0 0 rfl rfl ?_
  refine gf11_0 X wf_RX11_12 dX11_end_1 ?_
  refine gr_iload_n X dX11_end_4 1 rfl rfl ?_
  obtain ⟨v1, M2, q3, hf⟩ := gz_bd2e hf
  refine gr_callI (asF := fun ad => [.ref (ad 1), .int a0]) [.int a0] X (c10_shorten q3) rfl wm_RX11_111 rfl (X.kd gk_C1).1 ((X.kd gk_C1).2 _ _ _ _) rfl (by decide) (by decide) rfl (Nat.le_of_ble_eq_true rfl) hc dX11_end_5 ?_
  obtain ⟨h4, hf⟩ := gz_cke hf
  exact gz_EIu hE hf (gz_nb01 h4).1 dX11_end_8

def f11_narrowed (a0 : Int32) (a1 : Int32) (M0 : gz_M) : Option (Int32 × gz_M) := if a0 = 0 then (some (a1.toInt8.toInt32, M0)) else (if a0 = 1 then (some (a1.toInt16.toInt32, M0)) else (some (a1, M0)))
set_option maxRecDepth 100000 in
theorem c11_narrowed {pf : Nat → Bool} {l : Launch} {r : Int32} {M0 M' : gz_M} {a0 : Int32} {a1 : Int32} (hf : f11_narrowed a0 a1 M0 = some (r, M')) : gz_CI l gz_cfC yX11_narrowed cX11_narrowed 2 1 .int (fun _ => [.int a0, .int a1]) pf M0 r M' := by
  refine gz_ofI (by decide +kernel) (fun _ => Nat.le_of_ble_eq_true rfl) (fun x X hc hE => ?_)
  show gz_At x 0 [(0, .int a0), (1, .int a1)] [] M0
  unfold f11_narrowed at hf
  refine gr_iload_n X dX11_narrowed_0 0 rfl rfl ?_
  refine gr_if_ne 7 X dX11_narrowed_1 (by decide) (fun h1 => ?_) (fun h1 => ?_)
  · rw [if_pos h1] at hf
    refine gr_iload_n X dX11_narrowed_4 1 rfl rfl ?_
    refine gr_i2b X dX11_narrowed_5 ?_
    exact gz_EIu hE hf rfl dX11_narrowed_6
  · rw [if_neg h1] at hf
    refine gr_iload_n X dX11_narrowed_7 0 rfl rfl ?_
    refine gr_iconst 1 X dX11_narrowed_8 (by decide) ?_
    refine gr_icmp_ne 17 X dX11_narrowed_9 (by decide) (fun h2 => ?_) (fun h2 => ?_)
    · rw [if_pos h2] at hf
      refine gr_iload_n X dX11_narrowed_12 1 rfl rfl ?_
      refine gr_i2s X dX11_narrowed_13 ?_
      refine gr_goto 18 X dX11_narrowed_14 (by decide) ?_
      exact gz_EIu hE hf rfl dX11_narrowed_18
    · rw [if_neg h2] at hf
      refine gr_iload_n X dX11_narrowed_17 1 rfl rfl ?_
      exact gz_EIu hE hf rfl dX11_narrowed_18

def f11_recut (M0 : gz_M) : Option (gz_M) := gz_bd (f2_make (gz_cIx (M0.1 0 5)) 11 (7 + 2) M0) fun M1 => some M1
set_option maxRecDepth 100000 in
theorem c11_recut {pf : Nat → Bool} {l : Launch} {M0 M' : gz_M} (hf : f11_recut M0 = some M') : gz_CV l gz_cfC yX11_recut cX11_recut 1 5 (fun ad => [.ref (ad 0)]) pf M0 M' := by
  refine gz_ofV (by decide +kernel) (fun _ => Nat.le_of_ble_eq_true rfl) (fun x X hc hE => ?_)
  show gz_At x 0 [(0, .ref (gx_ad x 0))] [] M0
  unfold f11_recut at hf
  refine gr_aload_n X dX11_recut_0 0 rfl rfl ?_
  refine gf11_5 X wf_RX11_47 dX11_recut_1 ?_
  refine gr_aload_n X dX11_recut_4 0 rfl rfl ?_
  refine gf11_4 X wf_RX11_40 dX11_recut_5 ?_
  refine gr_aload_n X dX11_recut_8 0 rfl rfl ?_
  refine gf11_3 X wf_RX11_33 dX11_recut_9 ?_
  refine gf0_2 X (gk_X0o gi_now) wf_RX11_141 dX11_recut_12 ?_
  obtain ⟨M1, q2, hf⟩ := gz_bde hf
  refine gr_callV (asF := fun ad => [.ref (ad (gz_cIx (M0.1 0 5))), .ref (ad 11), .ref (ad (7 + 2))]) [.ref (gx_ad x 11), .ref (gx_ad x (7 + 2))] X (c2_make (gi_cut _) gi_table (gi_X0line gi_now) q2) rfl wm_RX11_230 rfl (X.kd (gk_X2o (gi_cut _))).1 ((X.kd (gk_X2o (gi_cut _))).2 _ _ _ _) rfl (by decide) (by decide) rfl (Nat.le_of_ble_eq_true rfl) hc dX11_recut_15 ?_
  exact gz_EVu hE hf dX11_recut_18

def f11_sheet_64 : Nat → Int32 → Int32 → Int32 → Int32 → Int32 → gz_M → Option (Int32 × gz_M)
  | 0, _, _, _, _, _, _ => none
  | n + 1, x1, x2, x4, x5, x6, M0 => if x2 ≤ x6 then (gz_bd (f11_recut M0) fun M2 => some (x2, M2)) else (gz_bd2 (f11_narrowed x1 x5 M0) fun v4 M5 => gz_bd2 (fJ_floorMod v4 8 M5) fun v7 M8 => gz_bd (f5_insert (7 + 2) x6 v7 M8) fun M10 => gz_lt (x5 + x4) fun v12 => gz_lt (x6 + 1) fun v13 => f11_sheet_64 n x1 x2 x4 v12 v13 M10)
theorem b11_sheet_64 {x : gz_X} {pf : Nat → Bool} {l : Launch} {r : Int32} {M' : gz_M} (X : gz_Ok x cX11_sheet RX11 7 6 gz_cfC pf l) (hc : gx_cells x ≤ (gx_R x).cells ∧ gx_slots x ≤ (gx_R x).slots) (hE : gz_EI x cX11_sheet .int r M') : ∀ (n : Nat) (x1 : Int32) (x2 : Int32) (x4 : Int32) (x5 : Int32) (x6 : Int32) (M0 : gz_M), f11_sheet_64 n x1 x2 x4 x5 x6 M0 = some (r, M') → gz_At x 64 [(0, .ref (gx_ad x 0)), (1, .int x1), (2, .int x2), (4, .int x4), (5, .int x5), (6, .int x6)] [] M0 := by
  intro n
  induction n with
  | zero =>
    intro x1 x2 x4 x5 x6 M0  hf
    rw [f11_sheet_64] at hf
    cases hf
  | succ n ih =>
    intro x1 x2 x4 x5 x6 M0  hf
    rw [f11_sheet_64] at hf
    refine gr_iload X dX11_sheet_64 5 rfl ?_
    refine gr_iload_n X dX11_sheet_66 2 rfl rfl ?_
    refine gr_icmp_ge 106 X dX11_sheet_67 (by decide) (fun h1 => ?_) (fun h1 => ?_)
    · rw [if_pos h1] at hf
      refine gr_aload_n X dX11_sheet_106 0 rfl rfl ?_
      obtain ⟨M2, q3, hf⟩ := gz_bde hf
      refine gr_callV (asF := fun ad => [.ref (ad 0)]) [] X (c11_recut q3) rfl wm_RX11_147 rfl (X.kd gk_C0).1 ((X.kd gk_C0).2 _ _ _ _) rfl (by decide) (by decide) rfl (Nat.le_of_ble_eq_true rfl) hc dX11_sheet_107 ?_
      refine gr_iload_n X dX11_sheet_110 2 rfl rfl ?_
      exact gz_EIu hE hf rfl dX11_sheet_111
    · rw [if_neg h1] at hf
      refine gr_aload_n X dX11_sheet_70 0 rfl rfl ?_
      refine gf11_3 X wf_RX11_33 dX11_sheet_71 ?_
      refine gf0_2 X (gk_X0o gi_now) wf_RX11_141 dX11_sheet_74 ?_
      refine gr_iload X dX11_sheet_77 5 rfl ?_
      refine gr_iload_n X dX11_sheet_79 1 rfl rfl ?_
      refine gr_iload X dX11_sheet_80 4 rfl ?_
      obtain ⟨v4, M5, q6, hf⟩ := gz_bd2e hf
      refine gr_callSI (asF := fun _ => [.int x1, .int x5]) [.int x1, .int x5] X (c11_narrowed q6) rfl wm_RX11_177 rfl (by decide) (by decide) rfl (Nat.le_of_ble_eq_true rfl) hc dX11_sheet_82 ?_
      refine gr_bipush 8 X dX11_sheet_85 (by decide) ?_
      obtain ⟨v7, M8, q9, hf⟩ := gz_bd2e hf
      refine gr_callSI (asF := fun _ => [.int v4, .int 8]) [.int v4, .int 8] X (cJ_floorMod q9) rfl wm_RX11_181 rfl (by decide) (by decide) rfl (Nat.le_of_ble_eq_true rfl) hc dX11_sheet_87 ?_
      obtain ⟨M10, q11, hf⟩ := gz_bde hf
      refine gr_callV (asF := fun ad => [.ref (ad (7 + 2)), .int x6, .int v7]) [.int x6, .int v7] X (c5_insert (gi_X0line gi_now) q11) rfl wm_RX11_186 rfl (X.kd (gk_X5o (gi_X0line gi_now))).1 ((X.kd (gk_X5o (gi_X0line gi_now))).2 _ _ _ _) rfl (by decide) (by decide) rfl (Nat.le_of_ble_eq_true rfl) hc dX11_sheet_90 ?_
      refine gr_iload X dX11_sheet_93 4 rfl ?_
      refine gr_iload X dX11_sheet_95 3 rfl ?_
      refine gr_iadd X dX11_sheet_97 ?_
      obtain ⟨v12, ev12, hf⟩ := gz_lte hf
      refine gr_istore [(5, .int v12), (0, .ref (gx_ad x 0)), (1, .int x1), (2, .int x2), (4, .int x4), (6, .int x6)] X dX11_sheet_98 ev12 (by decide) rfl ?_
      obtain ⟨v13, ev13, hf⟩ := gz_lte hf
      refine gr_iinc 1 [(6, .int v13), (5, .int v12), (0, .ref (gx_ad x 0)), (1, .int x1), (2, .int x2), (4, .int x4)] X dX11_sheet_100 5 rfl (by decide) ev13 (by decide) rfl ?_
      refine gr_goto 64 X dX11_sheet_103 (by decide) ?_
      refine gr_sub (lv' := [(0, .ref (gx_ad x 0)), (1, .int x1), (2, .int x2), (4, .int x4), (5, .int v12), (6, .int v13)]) [2, 3, 4, 5, 1, 0] rfl ?_
      exact ih _ _ _ _ _ _ hf

def f11_sheet (a0 : Int32) (a1 : Int32) (a2 : Int32) (a3 : Int32) (M0 : gz_M) : Option (Int32 × gz_M) := if a0 < 0 then (some ((-1), M0)) else (if 3 < a0 then (some ((-1), M0)) else (if a1 ≤ 24 then (if a0 = 3 then (gz_lt (gz_w M0 (7 + 2) 1 0) fun M5 => gz_bd (f11_recut M5) fun M6 => some ((-3), M6)) else (if 0 ≤ a1 then (gz_lt (gz_w M0 (7 + 2) 1 0) fun M9 => f11_sheet_64 gz_FU a0 a1 a3 a2 0 M9) else (some ((-2), M0)))) else (some ((-1), M0))))
set_option maxRecDepth 100000 in
theorem c11_sheet {pf : Nat → Bool} {l : Launch} {r : Int32} {M0 M' : gz_M} {a0 : Int32} {a1 : Int32} {a2 : Int32} {a3 : Int32} (hf : f11_sheet a0 a1 a2 a3 M0 = some (r, M')) : gz_CI l gz_cfC yX11_sheet cX11_sheet 7 6 .int (fun ad => [.ref (ad 0), .int a0, .int a1, .int a2, .int a3]) pf M0 r M' := by
  refine gz_ofI (by decide +kernel) (fun _ => Nat.le_of_ble_eq_true rfl) (fun x X hc hE => ?_)
  show gz_At x 0 [(0, .ref (gx_ad x 0)), (1, .int a0), (2, .int a1), (3, .int a2), (4, .int a3)] [] M0
  unfold f11_sheet at hf
  refine gr_iload_n X dX11_sheet_0 1 rfl rfl ?_
  refine gr_if_lt 15 X dX11_sheet_1 (by decide) (fun h1 => ?_) (fun h1 => ?_)
  · rw [if_pos h1] at hf
    refine gr_iconst (-1) X dX11_sheet_15 (by decide) ?_
    exact gz_EIu hE hf rfl dX11_sheet_16
  · rw [if_neg h1] at hf
    refine gr_iload_n X dX11_sheet_4 1 rfl rfl ?_
    refine gr_iconst 3 X dX11_sheet_5 (by decide) ?_
    refine gr_icmp_gt 15 X dX11_sheet_6 (by decide) (fun h2 => ?_) (fun h2 => ?_)
    · rw [if_pos h2] at hf
      refine gr_iconst (-1) X dX11_sheet_15 (by decide) ?_
      exact gz_EIu hE hf rfl dX11_sheet_16
    · rw [if_neg h2] at hf
      refine gr_iload_n X dX11_sheet_9 2 rfl rfl ?_
      refine gr_bipush 24 X dX11_sheet_10 (by decide) ?_
      refine gr_icmp_le 17 X dX11_sheet_12 (by decide) (fun h3 => ?_) (fun h3 => ?_)
      · rw [if_pos h3] at hf
        refine gr_iload_n X dX11_sheet_17 1 rfl rfl ?_
        refine gr_iconst 3 X dX11_sheet_18 (by decide) ?_
        refine gr_icmp_ne 40 X dX11_sheet_19 (by decide) (fun h4 => ?_) (fun h4 => ?_)
        · rw [if_pos h4] at hf
          refine gr_aload_n X dX11_sheet_22 0 rfl rfl ?_
          refine gf11_3 X wf_RX11_33 dX11_sheet_23 ?_
          refine gf0_2 X (gk_X0o gi_now) wf_RX11_141 dX11_sheet_26 ?_
          refine gr_iconst 0 X dX11_sheet_29 (by decide) ?_
          obtain ⟨M5, eM5, hf⟩ := gz_lte hf
          refine gp5_1 X (gk_X5o (gi_X0line gi_now)) wf_RX11_150 eM5 dX11_sheet_30 ?_
          refine gr_aload_n X dX11_sheet_33 0 rfl rfl ?_
          obtain ⟨M6, q7, hf⟩ := gz_bde hf
          refine gr_callV (asF := fun ad => [.ref (ad 0)]) [] X (c11_recut q7) rfl wm_RX11_147 rfl (X.kd gk_C0).1 ((X.kd gk_C0).2 _ _ _ _) rfl (by decide) (by decide) rfl (Nat.le_of_ble_eq_true rfl) hc dX11_sheet_34 ?_
          refine gr_bipush (-3) X dX11_sheet_37 (by decide) ?_
          exact gz_EIu hE hf rfl dX11_sheet_39
        · rw [if_neg h4] at hf
          refine gr_iload_n X dX11_sheet_40 2 rfl rfl ?_
          refine gr_if_ge 47 X dX11_sheet_41 (by decide) (fun h8 => ?_) (fun h8 => ?_)
          · rw [if_pos h8] at hf
            refine gr_iload_n X dX11_sheet_47 3 rfl rfl ?_
            refine gr_istore [(5, .int a2), (0, .ref (gx_ad x 0)), (1, .int a0), (2, .int a1), (3, .int a2), (4, .int a3)] X dX11_sheet_48 rfl (by decide) rfl ?_
            refine gr_aload_n X dX11_sheet_50 1 rfl rfl ?_
            refine gf11_3 X wf_RX11_33 dX11_sheet_51 ?_
            refine gf0_2 X (gk_X0o gi_now) wf_RX11_141 dX11_sheet_54 ?_
            refine gr_iconst 0 X dX11_sheet_57 (by decide) ?_
            obtain ⟨M9, eM9, hf⟩ := gz_lte hf
            refine gp5_1 X (gk_X5o (gi_X0line gi_now)) wf_RX11_150 eM9 dX11_sheet_58 ?_
            refine gr_iconst 0 X dX11_sheet_61 (by decide) ?_
            refine gr_istore [(6, .int 0), (5, .int a2), (0, .ref (gx_ad x 0)), (1, .int a0), (2, .int a1), (3, .int a2), (4, .int a3)] X dX11_sheet_62 rfl (by decide) rfl ?_
            refine gr_sub (lv' := [(0, .ref (gx_ad x 0)), (1, .int a0), (2, .int a1), (4, .int a3), (5, .int a2), (6, .int 0)]) [2, 3, 4, 6, 1, 0] rfl ?_
            exact b11_sheet_64 X hc hE _ _ _ _ _ _ _ hf
          · rw [if_neg h8] at hf
            refine gr_bipush (-2) X dX11_sheet_44 (by decide) ?_
            exact gz_EIu hE hf rfl dX11_sheet_46
      · rw [if_neg h3] at hf
        refine gr_iconst (-1) X dX11_sheet_15 (by decide) ?_
        exact gz_EIu hE hf rfl dX11_sheet_16

def f11_tell (a0 : Int64) (M0 : gz_M) : Option (gz_M) := if (M0.1 0 15) < 0 then (some M0) else (if 1024 ≤ (M0.1 0 15) then (some M0) else (gz_ck (gz_inb (M0.1 0 15) 1024) <| gz_lt (gz_wl M0 (M0.1 0 15).toNatClampNeg a0) fun M4 => gz_lt (gz_w M4 0 15 ((M4.1 0 15) + 1)) fun M5 => some M5))
set_option maxRecDepth 100000 in
theorem c11_tell {pf : Nat → Bool} {l : Launch} {M0 M' : gz_M} {a0 : Int64} (hf : f11_tell a0 M0 = some M') : gz_CV l gz_cfC yX11_tell cX11_tell 3 1 (fun ad => [.ref (ad 0), .long a0]) pf M0 M' := by
  refine gz_ofV (by decide +kernel) (fun _ => Nat.le_of_ble_eq_true rfl) (fun x X hc hE => ?_)
  show gz_At x 0 [(0, .ref (gx_ad x 0)), (1, .long a0)] [] M0
  unfold f11_tell at hf
  refine gr_aload_n X dX11_tell_0 0 rfl rfl ?_
  refine gf11_15 X wf_RX11_100 dX11_tell_1 ?_
  refine gr_if_lt 39 X dX11_tell_4 (by decide) (fun h1 => ?_) (fun h1 => ?_)
  · rw [if_pos h1] at hf
    exact gz_EVu hE hf dX11_tell_39
  · rw [if_neg h1] at hf
    refine gr_aload_n X dX11_tell_7 0 rfl rfl ?_
    refine gf11_15 X wf_RX11_100 dX11_tell_8 ?_
    refine gr_aload_n X dX11_tell_11 0 rfl rfl ?_
    refine gf11_14 X wf_RX11_96 dX11_tell_12 ?_
    refine gr_arraylengthJ X gk_C134 (1024) (by decide) dX11_tell_15 ?_
    refine gr_icmp_ge 39 X dX11_tell_16 (by decide) (fun h2 => ?_) (fun h2 => ?_)
    · rw [if_pos h2] at hf
      exact gz_EVu hE hf dX11_tell_39
    · rw [if_neg h2] at hf
      refine gr_aload_n X dX11_tell_19 0 rfl rfl ?_
      refine gf11_14 X wf_RX11_96 dX11_tell_20 ?_
      refine gr_aload_n X dX11_tell_23 0 rfl rfl ?_
      refine gf11_15 X wf_RX11_100 dX11_tell_24 ?_
      refine gr_lload_n X dX11_tell_27 1 rfl rfl ?_
      obtain ⟨h3, hf⟩ := gz_cke hf
      obtain ⟨M4, eM4, hf⟩ := gz_lte hf
      refine gr_lastore X gz_LCC gk_C134 (gz_inp h3) eM4 dX11_tell_28 ?_
      refine gr_aload_n X dX11_tell_29 0 rfl rfl ?_
      refine gr_dup X dX11_tell_30 rfl ?_
      refine gf11_15 X wf_RX11_100 dX11_tell_31 ?_
      refine gr_iconst 1 X dX11_tell_34 (by decide) ?_
      refine gr_iadd X dX11_tell_35 ?_
      obtain ⟨M5, eM5, hf⟩ := gz_lte hf
      refine gp11_15 X wf_RX11_100 eM5 dX11_tell_36 ?_
      exact gz_EVu hE hf dX11_tell_39

def f11_cut_7 : Nat → Int32 → gz_M → Option (Int32 × gz_M)
  | 0, _, _ => none
  | n + 1, x1, M0 => if (M0.1 (gz_cIx (M0.1 0 5)) 0) ≤ x1 then (some (M0.1 (gz_cIx (M0.1 0 5)) 0, M0)) else (gz_ck (gz_inb x1 24) <| gz_bd (f11_tell ((M0.1 (gz_cIx (M0.1 0 5) + 3) x1.toNatClampNeg).toInt64) M0) fun M3 => gz_lt (x1 + 1) fun v5 => f11_cut_7 n v5 M3)
theorem b11_cut_7 {x : gz_X} {pf : Nat → Bool} {l : Launch} {r : Int32} {M' : gz_M} (X : gz_Ok x cX11_cut RX11 2 2 gz_cfC pf l) (hc : gx_cells x ≤ (gx_R x).cells ∧ gx_slots x ≤ (gx_R x).slots) (hE : gz_EI x cX11_cut .int r M') : ∀ (n : Nat) (x1 : Int32) (M0 : gz_M), f11_cut_7 n x1 M0 = some (r, M') → gz_At x 7 [(0, .ref (gx_ad x 0)), (1, .int x1)] [] M0 := by
  intro n
  induction n with
  | zero =>
    intro x1 M0  hf
    rw [f11_cut_7] at hf
    cases hf
  | succ n ih =>
    intro x1 M0  hf
    rw [f11_cut_7] at hf
    refine gr_iload_n X dX11_cut_7 1 rfl rfl ?_
    refine gr_aload_n X dX11_cut_8 0 rfl rfl ?_
    refine gf11_5 X wf_RX11_47 dX11_cut_9 ?_
    refine gf2_0 X (gk_X2o (gi_cut _)) wf_RX11_190 dX11_cut_12 ?_
    refine gr_icmp_ge 38 X dX11_cut_15 (by decide) (fun h1 => ?_) (fun h1 => ?_)
    · rw [if_pos h1] at hf
      refine gr_aload_n X dX11_cut_38 0 rfl rfl ?_
      refine gf11_5 X wf_RX11_47 dX11_cut_39 ?_
      refine gf2_0 X (gk_X2o (gi_cut _)) wf_RX11_190 dX11_cut_42 ?_
      exact gz_EIu hE hf rfl dX11_cut_45
    · rw [if_neg h1] at hf
      refine gr_aload_n X dX11_cut_18 0 rfl rfl ?_
      refine gr_aload_n X dX11_cut_19 0 rfl rfl ?_
      refine gf11_5 X wf_RX11_47 dX11_cut_20 ?_
      refine gf2_4 X (gk_X2o (gi_cut _)) wf_RX11_193 dX11_cut_23 ?_
      refine gr_iload_n X dX11_cut_26 1 rfl rfl ?_
      obtain ⟨h2, hf⟩ := gz_cke hf
      refine gr_iaload X (gk_X23 (gi_cut _)) (gz_inp h2) dX11_cut_27 ?_
      refine gr_i2l X dX11_cut_28 ?_
      obtain ⟨M3, q4, hf⟩ := gz_bde hf
      refine gr_callV (asF := fun ad => [.ref (ad 0), .long ((M0.1 (gz_cIx (M0.1 0 5) + 3) x1.toNatClampNeg).toInt64)]) [.long ((M0.1 (gz_cIx (M0.1 0 5) + 3) x1.toNatClampNeg).toInt64)] X (c11_tell q4) rfl wm_RX11_196 rfl (X.kd gk_C0).1 ((X.kd gk_C0).2 _ _ _ _) rfl (by decide) (by decide) rfl (Nat.le_of_ble_eq_true rfl) hc dX11_cut_29 ?_
      obtain ⟨v5, ev5, hf⟩ := gz_lte hf
      refine gr_iinc 1 [(1, .int v5), (0, .ref (gx_ad x 0))] X dX11_cut_32 1 rfl (by decide) ev5 (by decide) rfl ?_
      refine gr_goto 7 X dX11_cut_35 (by decide) ?_
      refine gr_sub (lv' := [(0, .ref (gx_ad x 0)), (1, .int v5)]) [1, 0] rfl ?_
      exact ih _ _ hf

def f11_cut (M0 : gz_M) : Option (Int32 × gz_M) := gz_lt (gz_w M0 0 15 0) fun M1 => f11_cut_7 gz_FU 0 M1
set_option maxRecDepth 100000 in
theorem c11_cut {pf : Nat → Bool} {l : Launch} {r : Int32} {M0 M' : gz_M} (hf : f11_cut M0 = some (r, M')) : gz_CI l gz_cfC yX11_cut cX11_cut 2 2 .int (fun ad => [.ref (ad 0)]) pf M0 r M' := by
  refine gz_ofI (by decide +kernel) (fun _ => Nat.le_of_ble_eq_true rfl) (fun x X hc hE => ?_)
  show gz_At x 0 [(0, .ref (gx_ad x 0))] [] M0
  unfold f11_cut at hf
  refine gr_aload_n X dX11_cut_0 0 rfl rfl ?_
  refine gr_iconst 0 X dX11_cut_1 (by decide) ?_
  obtain ⟨M1, eM1, hf⟩ := gz_lte hf
  refine gp11_15 X wf_RX11_100 eM1 dX11_cut_2 ?_
  refine gr_iconst 0 X dX11_cut_5 (by decide) ?_
  refine gr_istore_n [(1, .int 0), (0, .ref (gx_ad x 0))] X dX11_cut_6 rfl rfl (by decide) rfl ?_
  refine gr_sub (lv' := [(0, .ref (gx_ad x 0)), (1, .int 0)]) [1, 0] rfl ?_
  exact b11_cut_7 X hc hE _ _ _ hf

def f11_modes_67 : Nat → Int32 → Int32 → Int32 → gz_M → Option (Int32 × gz_M)
  | 0, _, _, _, _ => none
  | n + 1, x2, x3, x4, M0 => if x4 < 0 then (some (x2, M0)) else (gz_bd (f11_tell (((gz_shr x3 (2 * x4)) &&& 3).toInt64) M0) fun M2 => gz_lt (x4 + (-1)) fun v4 => f11_modes_67 n x2 x3 v4 M2)
theorem b11_modes_67 {x : gz_X} {pf : Nat → Bool} {l : Launch} {r : Int32} {M' : gz_M} (X : gz_Ok x cX11_modes RX11 5 2 gz_cfC pf l) (hc : gx_cells x ≤ (gx_R x).cells ∧ gx_slots x ≤ (gx_R x).slots) (hE : gz_EI x cX11_modes .int r M') : ∀ (n : Nat) (x2 : Int32) (x3 : Int32) (x4 : Int32) (M0 : gz_M), f11_modes_67 n x2 x3 x4 M0 = some (r, M') → gz_At x 67 [(0, .ref (gx_ad x 0)), (2, .int x2), (3, .int x3), (4, .int x4)] [] M0 := by
  intro n
  induction n with
  | zero =>
    intro x2 x3 x4 M0  hf
    rw [f11_modes_67] at hf
    cases hf
  | succ n ih =>
    intro x2 x3 x4 M0  hf
    rw [f11_modes_67] at hf
    refine gr_iload X dX11_modes_67 3 rfl ?_
    refine gr_if_lt 91 X dX11_modes_69 (by decide) (fun h1 => ?_) (fun h1 => ?_)
    · rw [if_pos h1] at hf
      refine gr_iload_n X dX11_modes_91 1 rfl rfl ?_
      exact gz_EIu hE hf rfl dX11_modes_92
    · rw [if_neg h1] at hf
      refine gr_aload_n X dX11_modes_72 0 rfl rfl ?_
      refine gr_iload_n X dX11_modes_73 2 rfl rfl ?_
      refine gr_iconst 2 X dX11_modes_74 (by decide) ?_
      refine gr_iload X dX11_modes_75 3 rfl ?_
      refine gr_imul X dX11_modes_77 ?_
      refine gr_ishr X dX11_modes_78 ?_
      refine gr_iconst 3 X dX11_modes_79 (by decide) ?_
      refine gr_iand X dX11_modes_80 ?_
      refine gr_i2l X dX11_modes_81 ?_
      obtain ⟨M2, q3, hf⟩ := gz_bde hf
      refine gr_callV (asF := fun ad => [.ref (ad 0), .long (((gz_shr x3 (2 * x4)) &&& 3).toInt64)]) [.long (((gz_shr x3 (2 * x4)) &&& 3).toInt64)] X (c11_tell q3) rfl wm_RX11_196 rfl (X.kd gk_C0).1 ((X.kd gk_C0).2 _ _ _ _) rfl (by decide) (by decide) rfl (Nat.le_of_ble_eq_true rfl) hc dX11_modes_82 ?_
      obtain ⟨v4, ev4, hf⟩ := gz_lte hf
      refine gr_iinc (-1) [(4, .int v4), (0, .ref (gx_ad x 0)), (2, .int x2), (3, .int x3)] X dX11_modes_85 3 rfl (by decide) ev4 (by decide) rfl ?_
      refine gr_goto 67 X dX11_modes_88 (by decide) ?_
      refine gr_sub (lv' := [(0, .ref (gx_ad x 0)), (2, .int x2), (3, .int x3), (4, .int v4)]) [1, 2, 3, 0] rfl ?_
      exact ih _ _ _ _ hf

def f11_modes_56 (x2 : Int32) (s0 : Int32) (M0 : gz_M) : Option (Int32 × gz_M) := gz_lt (gz_w M0 0 15 0) fun M1 => gz_lt (x2 - 1) fun v2 => f11_modes_67 gz_FU x2 s0 v2 M1
theorem b11_modes_56 {x : gz_X} {pf : Nat → Bool} {l : Launch} {r : Int32} {M' : gz_M} (X : gz_Ok x cX11_modes RX11 5 2 gz_cfC pf l) (hc : gx_cells x ≤ (gx_R x).cells ∧ gx_slots x ≤ (gx_R x).slots) (hE : gz_EI x cX11_modes .int r M') : ∀ (x2 : Int32) (s0 : Int32) (M0 : gz_M), f11_modes_56 x2 s0 M0 = some (r, M') → gz_At x 56 [(0, .ref (gx_ad x 0)), (2, .int x2)] [.int s0] M0 := by
  intro x2 s0 M0  hf
  rw [f11_modes_56] at hf
  refine gr_istore_n [(3, .int s0), (0, .ref (gx_ad x 0)), (2, .int x2)] X dX11_modes_56 rfl rfl (by decide) rfl ?_
  refine gr_aload_n X dX11_modes_57 1 rfl rfl ?_
  refine gr_iconst 0 X dX11_modes_58 (by decide) ?_
  obtain ⟨M1, eM1, hf⟩ := gz_lte hf
  refine gp11_15 X wf_RX11_100 eM1 dX11_modes_59 ?_
  refine gr_iload_n X dX11_modes_62 2 rfl rfl ?_
  refine gr_iconst 1 X dX11_modes_63 (by decide) ?_
  refine gr_isub X dX11_modes_64 ?_
  obtain ⟨v2, ev2, hf⟩ := gz_lte hf
  refine gr_istore [(4, .int v2), (3, .int s0), (0, .ref (gx_ad x 0)), (2, .int x2)] X dX11_modes_65 ev2 (by decide) rfl ?_
  refine gr_sub (lv' := [(0, .ref (gx_ad x 0)), (2, .int x2), (3, .int s0), (4, .int v2)]) [2, 3, 1, 0] rfl ?_
  exact b11_modes_67 X hc hE _ _ _ _ _ hf

def f11_modes_37 (x1 : Int32) (s0 : Int32) (M0 : gz_M) : Option (Int32 × gz_M) := if x1 = (-1) then (f11_modes_56 s0 0 M0) else (gz_ck (gz_inb x1 24) <| f11_modes_56 s0 (M0.1 (gz_cIx (M0.1 0 5) + 8) x1.toNatClampNeg) M0)
theorem b11_modes_37 {x : gz_X} {pf : Nat → Bool} {l : Launch} {r : Int32} {M' : gz_M} (X : gz_Ok x cX11_modes RX11 5 2 gz_cfC pf l) (hc : gx_cells x ≤ (gx_R x).cells ∧ gx_slots x ≤ (gx_R x).slots) (hE : gz_EI x cX11_modes .int r M') : ∀ (x1 : Int32) (s0 : Int32) (M0 : gz_M), f11_modes_37 x1 s0 M0 = some (r, M') → gz_At x 37 [(0, .ref (gx_ad x 0)), (1, .int x1)] [.int s0] M0 := by
  intro x1 s0 M0  hf
  rw [f11_modes_37] at hf
  refine gr_istore_n [(2, .int s0), (0, .ref (gx_ad x 0)), (1, .int x1)] X dX11_modes_37 rfl rfl (by decide) rfl ?_
  refine gr_iload_n X dX11_modes_38 2 rfl rfl ?_
  refine gr_iconst (-1) X dX11_modes_39 (by decide) ?_
  refine gr_icmp_ne 47 X dX11_modes_40 (by decide) (fun h1 => ?_) (fun h1 => ?_)
  · rw [if_pos h1] at hf
    refine gr_iconst 0 X dX11_modes_43 (by decide) ?_
    refine gr_goto 56 X dX11_modes_44 (by decide) ?_
    refine gr_sub (lv' := [(0, .ref (gx_ad x 0)), (2, .int s0)]) [1, 0] rfl ?_
    exact b11_modes_56 X hc hE _ _ _ hf
  · rw [if_neg h1] at hf
    refine gr_aload_n X dX11_modes_47 1 rfl rfl ?_
    refine gf11_5 X wf_RX11_47 dX11_modes_48 ?_
    refine gf2_9 X (gk_X2o (gi_cut _)) wf_RX11_213 dX11_modes_51 ?_
    refine gr_iload_n X dX11_modes_54 2 rfl rfl ?_
    obtain ⟨h2, hf⟩ := gz_cke hf
    refine gr_iaload X (gk_X28 (gi_cut _)) (gz_inp h2) dX11_modes_55 ?_
    refine gr_sub (lv' := [(0, .ref (gx_ad x 0)), (2, .int s0)]) [1, 0] rfl ?_
    exact b11_modes_56 X hc hE _ _ _ hf

def f11_modes (a0 : Int32) (M0 : gz_M) : Option (Int32 × gz_M) := if a0 < (-1) then (some ((-2), M0)) else (if a0 < (M0.1 (gz_cIx (M0.1 0 5)) 0) then (if a0 = (-1) then (f11_modes_37 a0 1 M0) else (gz_ck (gz_inb a0 24) <| f11_modes_37 a0 (M0.1 (gz_cIx (M0.1 0 5) + 7) a0.toNatClampNeg) M0)) else (some ((-2), M0)))
set_option maxRecDepth 100000 in
theorem c11_modes {pf : Nat → Bool} {l : Launch} {r : Int32} {M0 M' : gz_M} {a0 : Int32} (hf : f11_modes a0 M0 = some (r, M')) : gz_CI l gz_cfC yX11_modes cX11_modes 5 2 .int (fun ad => [.ref (ad 0), .int a0]) pf M0 r M' := by
  refine gz_ofI (by decide +kernel) (fun _ => Nat.le_of_ble_eq_true rfl) (fun x X hc hE => ?_)
  show gz_At x 0 [(0, .ref (gx_ad x 0)), (1, .int a0)] [] M0
  unfold f11_modes at hf
  refine gr_iload_n X dX11_modes_0 1 rfl rfl ?_
  refine gr_iconst (-1) X dX11_modes_1 (by decide) ?_
  refine gr_icmp_lt 16 X dX11_modes_2 (by decide) (fun h1 => ?_) (fun h1 => ?_)
  · rw [if_pos h1] at hf
    refine gr_bipush (-2) X dX11_modes_16 (by decide) ?_
    exact gz_EIu hE hf rfl dX11_modes_18
  · rw [if_neg h1] at hf
    refine gr_iload_n X dX11_modes_5 1 rfl rfl ?_
    refine gr_aload_n X dX11_modes_6 0 rfl rfl ?_
    refine gf11_5 X wf_RX11_47 dX11_modes_7 ?_
    refine gf2_0 X (gk_X2o (gi_cut _)) wf_RX11_190 dX11_modes_10 ?_
    refine gr_icmp_lt 19 X dX11_modes_13 (by decide) (fun h2 => ?_) (fun h2 => ?_)
    · rw [if_pos h2] at hf
      refine gr_iload_n X dX11_modes_19 1 rfl rfl ?_
      refine gr_iconst (-1) X dX11_modes_20 (by decide) ?_
      refine gr_icmp_ne 28 X dX11_modes_21 (by decide) (fun h3 => ?_) (fun h3 => ?_)
      · rw [if_pos h3] at hf
        refine gr_iconst 1 X dX11_modes_24 (by decide) ?_
        refine gr_goto 37 X dX11_modes_25 (by decide) ?_
        exact b11_modes_37 X hc hE _ _ _ hf
      · rw [if_neg h3] at hf
        refine gr_aload_n X dX11_modes_28 0 rfl rfl ?_
        refine gf11_5 X wf_RX11_47 dX11_modes_29 ?_
        refine gf2_8 X (gk_X2o (gi_cut _)) wf_RX11_210 dX11_modes_32 ?_
        refine gr_iload_n X dX11_modes_35 1 rfl rfl ?_
        obtain ⟨h4, hf⟩ := gz_cke hf
        refine gr_iaload X (gk_X27 (gi_cut _)) (gz_inp h4) dX11_modes_36 ?_
        exact b11_modes_37 X hc hE _ _ _ hf
    · rw [if_neg h2] at hf
      refine gr_bipush (-2) X dX11_modes_16 (by decide) ?_
      exact gz_EIu hE hf rfl dX11_modes_18

def f11_holds (a0 : Int32) (M0 : gz_M) : Option (Int32 × gz_M) := gz_bd2 (f2_holder (gz_cIx (M0.1 0 5)) a0 M0) fun v1 M2 => some (v1, M2)
set_option maxRecDepth 100000 in
theorem c11_holds {pf : Nat → Bool} {l : Launch} {r : Int32} {M0 M' : gz_M} {a0 : Int32} (hf : f11_holds a0 M0 = some (r, M')) : gz_CI l gz_cfC yX11_holds cX11_holds 2 2 .int (fun ad => [.ref (ad 0), .int a0]) pf M0 r M' := by
  refine gz_ofI (by decide +kernel) (fun _ => Nat.le_of_ble_eq_true rfl) (fun x X hc hE => ?_)
  show gz_At x 0 [(0, .ref (gx_ad x 0)), (1, .int a0)] [] M0
  unfold f11_holds at hf
  refine gr_aload_n X dX11_holds_0 0 rfl rfl ?_
  refine gf11_5 X wf_RX11_47 dX11_holds_1 ?_
  refine gr_iload_n X dX11_holds_4 1 rfl rfl ?_
  obtain ⟨v1, M2, q3, hf⟩ := gz_bd2e hf
  refine gr_callI (asF := fun ad => [.ref (ad (gz_cIx (M0.1 0 5))), .int a0]) [.int a0] X (c2_holder (gi_cut _) q3) rfl wm_RX11_216 rfl (X.kd (gk_X2o (gi_cut _))).1 ((X.kd (gk_X2o (gi_cut _))).2 _ _ _ _) rfl (by decide) (by decide) rfl (Nat.le_of_ble_eq_true rfl) hc dX11_holds_5 ?_
  exact gz_EIu hE hf rfl dX11_holds_8

def f11_stuck_7 : Nat → Int32 → gz_M → Option (Int32 × gz_M)
  | 0, _, _ => none
  | n + 1, x1, M0 => if (M0.1 (gz_cIx (M0.1 0 5)) 0) ≤ x1 then (gz_bd2 (f2_stuckTokens (gz_cIx (M0.1 0 5)) M0) fun v2 M3 => some (v2, M3)) else (gz_ck (gz_inb x1 24) <| if (M0.1 (gz_cIx (M0.1 0 5) + 1) x1.toNatClampNeg) = (-1) then (gz_ck (gz_inb x1 24) <| gz_bd (f11_tell ((M0.1 (gz_cIx (M0.1 0 5) + 2) x1.toNatClampNeg).toInt64) M0) fun M8 => gz_ck (gz_inb x1 24) <| gz_bd (f11_tell ((M8.1 (gz_cIx (M8.1 0 5) + 5) x1.toNatClampNeg).toInt64) M8) fun M11 => gz_lt (x1 + 1) fun v13 => f11_stuck_7 n v13 M11) else (gz_lt (x1 + 1) fun v14 => f11_stuck_7 n v14 M0))
theorem b11_stuck_7 {x : gz_X} {pf : Nat → Bool} {l : Launch} {r : Int32} {M' : gz_M} (X : gz_Ok x cX11_stuck RX11 2 2 gz_cfC pf l) (hc : gx_cells x ≤ (gx_R x).cells ∧ gx_slots x ≤ (gx_R x).slots) (hE : gz_EI x cX11_stuck .int r M') : ∀ (n : Nat) (x1 : Int32) (M0 : gz_M), f11_stuck_7 n x1 M0 = some (r, M') → gz_At x 7 [(0, .ref (gx_ad x 0)), (1, .int x1)] [] M0 := by
  intro n
  induction n with
  | zero =>
    intro x1 M0  hf
    rw [f11_stuck_7] at hf
    cases hf
  | succ n ih =>
    intro x1 M0  hf
    rw [f11_stuck_7] at hf
    refine gr_iload_n X dX11_stuck_7 1 rfl rfl ?_
    refine gr_aload_n X dX11_stuck_8 0 rfl rfl ?_
    refine gf11_5 X wf_RX11_47 dX11_stuck_9 ?_
    refine gf2_0 X (gk_X2o (gi_cut _)) wf_RX11_190 dX11_stuck_12 ?_
    refine gr_icmp_ge 65 X dX11_stuck_15 (by decide) (fun h1 => ?_) (fun h1 => ?_)
    · rw [if_pos h1] at hf
      refine gr_aload_n X dX11_stuck_65 0 rfl rfl ?_
      refine gf11_5 X wf_RX11_47 dX11_stuck_66 ?_
      obtain ⟨v2, M3, q4, hf⟩ := gz_bd2e hf
      refine gr_callI (asF := fun ad => [.ref (ad (gz_cIx (M0.1 0 5)))]) [] X (c2_stuckTokens (gi_cut _) q4) rfl wm_RX11_222 rfl (X.kd (gk_X2o (gi_cut _))).1 ((X.kd (gk_X2o (gi_cut _))).2 _ _ _ _) rfl (by decide) (by decide) rfl (Nat.le_of_ble_eq_true rfl) hc dX11_stuck_69 ?_
      exact gz_EIu hE hf rfl dX11_stuck_72
    · rw [if_neg h1] at hf
      refine gr_aload_n X dX11_stuck_18 0 rfl rfl ?_
      refine gf11_5 X wf_RX11_47 dX11_stuck_19 ?_
      refine gf2_2 X (gk_X2o (gi_cut _)) wf_RX11_200 dX11_stuck_22 ?_
      refine gr_iload_n X dX11_stuck_25 1 rfl rfl ?_
      obtain ⟨h5, hf⟩ := gz_cke hf
      refine gr_iaload X (gk_X21 (gi_cut _)) (gz_inp h5) dX11_stuck_26 ?_
      refine gr_iconst (-1) X dX11_stuck_27 (by decide) ?_
      refine gr_icmp_ne 59 X dX11_stuck_28 (by decide) (fun h6 => ?_) (fun h6 => ?_)
      · rw [if_pos h6] at hf
        refine gr_aload_n X dX11_stuck_31 0 rfl rfl ?_
        refine gr_aload_n X dX11_stuck_32 0 rfl rfl ?_
        refine gf11_5 X wf_RX11_47 dX11_stuck_33 ?_
        refine gf2_3 X (gk_X2o (gi_cut _)) wf_RX11_203 dX11_stuck_36 ?_
        refine gr_iload_n X dX11_stuck_39 1 rfl rfl ?_
        obtain ⟨h7, hf⟩ := gz_cke hf
        refine gr_iaload X (gk_X22 (gi_cut _)) (gz_inp h7) dX11_stuck_40 ?_
        refine gr_i2l X dX11_stuck_41 ?_
        obtain ⟨M8, q9, hf⟩ := gz_bde hf
        refine gr_callV (asF := fun ad => [.ref (ad 0), .long ((M0.1 (gz_cIx (M0.1 0 5) + 2) x1.toNatClampNeg).toInt64)]) [.long ((M0.1 (gz_cIx (M0.1 0 5) + 2) x1.toNatClampNeg).toInt64)] X (c11_tell q9) rfl wm_RX11_196 rfl (X.kd gk_C0).1 ((X.kd gk_C0).2 _ _ _ _) rfl (by decide) (by decide) rfl (Nat.le_of_ble_eq_true rfl) hc dX11_stuck_42 ?_
        refine gr_aload_n X dX11_stuck_45 0 rfl rfl ?_
        refine gr_aload_n X dX11_stuck_46 0 rfl rfl ?_
        refine gf11_5 X wf_RX11_47 dX11_stuck_47 ?_
        refine gf2_6 X (gk_X2o (gi_cut _)) wf_RX11_219 dX11_stuck_50 ?_
        refine gr_iload_n X dX11_stuck_53 1 rfl rfl ?_
        obtain ⟨h10, hf⟩ := gz_cke hf
        refine gr_iaload X (gk_X25 (gi_cut _)) (gz_inp h10) dX11_stuck_54 ?_
        refine gr_i2l X dX11_stuck_55 ?_
        obtain ⟨M11, q12, hf⟩ := gz_bde hf
        refine gr_callV (asF := fun ad => [.ref (ad 0), .long ((M8.1 (gz_cIx (M8.1 0 5) + 5) x1.toNatClampNeg).toInt64)]) [.long ((M8.1 (gz_cIx (M8.1 0 5) + 5) x1.toNatClampNeg).toInt64)] X (c11_tell q12) rfl wm_RX11_196 rfl (X.kd gk_C0).1 ((X.kd gk_C0).2 _ _ _ _) rfl (by decide) (by decide) rfl (Nat.le_of_ble_eq_true rfl) hc dX11_stuck_56 ?_
        obtain ⟨v13, ev13, hf⟩ := gz_lte hf
        refine gr_iinc 1 [(1, .int v13), (0, .ref (gx_ad x 0))] X dX11_stuck_59 1 rfl (by decide) ev13 (by decide) rfl ?_
        refine gr_goto 7 X dX11_stuck_62 (by decide) ?_
        refine gr_sub (lv' := [(0, .ref (gx_ad x 0)), (1, .int v13)]) [1, 0] rfl ?_
        exact ih _ _ hf
      · rw [if_neg h6] at hf
        obtain ⟨v14, ev14, hf⟩ := gz_lte hf
        refine gr_iinc 1 [(1, .int v14), (0, .ref (gx_ad x 0))] X dX11_stuck_59 1 rfl (by decide) ev14 (by decide) rfl ?_
        refine gr_goto 7 X dX11_stuck_62 (by decide) ?_
        refine gr_sub (lv' := [(0, .ref (gx_ad x 0)), (1, .int v14)]) [1, 0] rfl ?_
        exact ih _ _ hf

def f11_stuck (M0 : gz_M) : Option (Int32 × gz_M) := gz_lt (gz_w M0 0 15 0) fun M1 => f11_stuck_7 gz_FU 0 M1
set_option maxRecDepth 100000 in
theorem c11_stuck {pf : Nat → Bool} {l : Launch} {r : Int32} {M0 M' : gz_M} (hf : f11_stuck M0 = some (r, M')) : gz_CI l gz_cfC yX11_stuck cX11_stuck 2 2 .int (fun ad => [.ref (ad 0)]) pf M0 r M' := by
  refine gz_ofI (by decide +kernel) (fun _ => Nat.le_of_ble_eq_true rfl) (fun x X hc hE => ?_)
  show gz_At x 0 [(0, .ref (gx_ad x 0))] [] M0
  unfold f11_stuck at hf
  refine gr_aload_n X dX11_stuck_0 0 rfl rfl ?_
  refine gr_iconst 0 X dX11_stuck_1 (by decide) ?_
  obtain ⟨M1, eM1, hf⟩ := gz_lte hf
  refine gp11_15 X wf_RX11_100 eM1 dX11_stuck_2 ?_
  refine gr_iconst 0 X dX11_stuck_5 (by decide) ?_
  refine gr_istore_n [(1, .int 0), (0, .ref (gx_ad x 0))] X dX11_stuck_6 rfl rfl (by decide) rfl ?_
  refine gr_sub (lv' := [(0, .ref (gx_ad x 0)), (1, .int 0)]) [1, 0] rfl ?_
  exact b11_stuck_7 X hc hE _ _ _ hf

def f11_by_26 : Nat → Int32 → Int32 → gz_M → Option (Int32 × gz_M)
  | 0, _, _, _ => none
  | n + 1, x1, x2, M0 => if (M0.1 (gz_cIx (M0.1 0 5)) 0) ≤ x2 then (some (M0.1 0 15, M0)) else (gz_ck (gz_inb x2 24) <| if (M0.1 (gz_cIx (M0.1 0 5) + 1) x2.toNatClampNeg) = x1 then (gz_bd (f11_tell (x2.toInt64) M0) fun M4 => gz_lt (x2 + 1) fun v6 => f11_by_26 n x1 v6 M4) else (gz_lt (x2 + 1) fun v7 => f11_by_26 n x1 v7 M0))
theorem b11_by_26 {x : gz_X} {pf : Nat → Bool} {l : Launch} {r : Int32} {M' : gz_M} (X : gz_Ok x cX11_by RX11 3 2 gz_cfC pf l) (hc : gx_cells x ≤ (gx_R x).cells ∧ gx_slots x ≤ (gx_R x).slots) (hE : gz_EI x cX11_by .int r M') : ∀ (n : Nat) (x1 : Int32) (x2 : Int32) (M0 : gz_M), f11_by_26 n x1 x2 M0 = some (r, M') → gz_At x 26 [(0, .ref (gx_ad x 0)), (1, .int x1), (2, .int x2)] [] M0 := by
  intro n
  induction n with
  | zero =>
    intro x1 x2 M0  hf
    rw [f11_by_26] at hf
    cases hf
  | succ n ih =>
    intro x1 x2 M0  hf
    rw [f11_by_26] at hf
    refine gr_iload_n X dX11_by_26 2 rfl rfl ?_
    refine gr_aload_n X dX11_by_27 0 rfl rfl ?_
    refine gf11_5 X wf_RX11_47 dX11_by_28 ?_
    refine gf2_0 X (gk_X2o (gi_cut _)) wf_RX11_190 dX11_by_31 ?_
    refine gr_icmp_ge 62 X dX11_by_34 (by decide) (fun h1 => ?_) (fun h1 => ?_)
    · rw [if_pos h1] at hf
      refine gr_aload_n X dX11_by_62 0 rfl rfl ?_
      refine gf11_15 X wf_RX11_100 dX11_by_63 ?_
      exact gz_EIu hE hf rfl dX11_by_66
    · rw [if_neg h1] at hf
      refine gr_aload_n X dX11_by_37 0 rfl rfl ?_
      refine gf11_5 X wf_RX11_47 dX11_by_38 ?_
      refine gf2_2 X (gk_X2o (gi_cut _)) wf_RX11_200 dX11_by_41 ?_
      refine gr_iload_n X dX11_by_44 2 rfl rfl ?_
      obtain ⟨h2, hf⟩ := gz_cke hf
      refine gr_iaload X (gk_X21 (gi_cut _)) (gz_inp h2) dX11_by_45 ?_
      refine gr_iload_n X dX11_by_46 1 rfl rfl ?_
      refine gr_icmp_ne 56 X dX11_by_47 (by decide) (fun h3 => ?_) (fun h3 => ?_)
      · rw [if_pos h3] at hf
        refine gr_aload_n X dX11_by_50 0 rfl rfl ?_
        refine gr_iload_n X dX11_by_51 2 rfl rfl ?_
        refine gr_i2l X dX11_by_52 ?_
        obtain ⟨M4, q5, hf⟩ := gz_bde hf
        refine gr_callV (asF := fun ad => [.ref (ad 0), .long (x2.toInt64)]) [.long (x2.toInt64)] X (c11_tell q5) rfl wm_RX11_196 rfl (X.kd gk_C0).1 ((X.kd gk_C0).2 _ _ _ _) rfl (by decide) (by decide) rfl (Nat.le_of_ble_eq_true rfl) hc dX11_by_53 ?_
        obtain ⟨v6, ev6, hf⟩ := gz_lte hf
        refine gr_iinc 1 [(2, .int v6), (0, .ref (gx_ad x 0)), (1, .int x1)] X dX11_by_56 2 rfl (by decide) ev6 (by decide) rfl ?_
        refine gr_goto 26 X dX11_by_59 (by decide) ?_
        refine gr_sub (lv' := [(0, .ref (gx_ad x 0)), (1, .int x1), (2, .int v6)]) [1, 2, 0] rfl ?_
        exact ih _ _ _ hf
      · rw [if_neg h3] at hf
        obtain ⟨v7, ev7, hf⟩ := gz_lte hf
        refine gr_iinc 1 [(2, .int v7), (0, .ref (gx_ad x 0)), (1, .int x1)] X dX11_by_56 2 rfl (by decide) ev7 (by decide) rfl ?_
        refine gr_goto 26 X dX11_by_59 (by decide) ?_
        refine gr_sub (lv' := [(0, .ref (gx_ad x 0)), (1, .int x1), (2, .int v7)]) [1, 2, 0] rfl ?_
        exact ih _ _ _ hf

def f11_by (a0 : Int32) (M0 : gz_M) : Option (Int32 × gz_M) := if a0 < (-1) then (some ((-2), M0)) else (if a0 < (M0.1 11 0) then (gz_lt (gz_w M0 0 15 0) fun M3 => f11_by_26 gz_FU a0 0 M3) else (some ((-2), M0)))
set_option maxRecDepth 100000 in
theorem c11_by {pf : Nat → Bool} {l : Launch} {r : Int32} {M0 M' : gz_M} {a0 : Int32} (hf : f11_by a0 M0 = some (r, M')) : gz_CI l gz_cfC yX11_by cX11_by 3 2 .int (fun ad => [.ref (ad 0), .int a0]) pf M0 r M' := by
  refine gz_ofI (by decide +kernel) (fun _ => Nat.le_of_ble_eq_true rfl) (fun x X hc hE => ?_)
  show gz_At x 0 [(0, .ref (gx_ad x 0)), (1, .int a0)] [] M0
  unfold f11_by at hf
  refine gr_iload_n X dX11_by_0 1 rfl rfl ?_
  refine gr_iconst (-1) X dX11_by_1 (by decide) ?_
  refine gr_icmp_lt 16 X dX11_by_2 (by decide) (fun h1 => ?_) (fun h1 => ?_)
  · rw [if_pos h1] at hf
    refine gr_bipush (-2) X dX11_by_16 (by decide) ?_
    exact gz_EIu hE hf rfl dX11_by_18
  · rw [if_neg h1] at hf
    refine gr_iload_n X dX11_by_5 1 rfl rfl ?_
    refine gr_aload_n X dX11_by_6 0 rfl rfl ?_
    refine gf11_4 X wf_RX11_40 dX11_by_7 ?_
    refine gf7_0 X (gk_X7o gi_table) wf_RX11_135 dX11_by_10 ?_
    refine gr_icmp_lt 19 X dX11_by_13 (by decide) (fun h2 => ?_) (fun h2 => ?_)
    · rw [if_pos h2] at hf
      refine gr_aload_n X dX11_by_19 0 rfl rfl ?_
      refine gr_iconst 0 X dX11_by_20 (by decide) ?_
      obtain ⟨M3, eM3, hf⟩ := gz_lte hf
      refine gp11_15 X wf_RX11_100 eM3 dX11_by_21 ?_
      refine gr_iconst 0 X dX11_by_24 (by decide) ?_
      refine gr_istore_n [(2, .int 0), (0, .ref (gx_ad x 0)), (1, .int a0)] X dX11_by_25 rfl rfl (by decide) rfl ?_
      refine gr_sub (lv' := [(0, .ref (gx_ad x 0)), (1, .int a0), (2, .int 0)]) [1, 2, 0] rfl ?_
      exact b11_by_26 X hc hE _ _ _ _ hf
    · rw [if_neg h2] at hf
      refine gr_bipush (-2) X dX11_by_16 (by decide) ?_
      exact gz_EIu hE hf rfl dX11_by_18

def f11_moded_19 : Nat → Int32 → Int32 → Int32 → Int32 → Int32 → gz_M → Option (Int32 × gz_M)
  | 0, _, _, _, _, _, _ => none
  | n + 1, x1, x2, x3, x4, x5, M0 => if (M0.1 (gz_cIx (M0.1 0 5)) 0) ≤ x5 then (gz_lt (gz_w M0 0 15 0) fun M2 => gz_bd (f11_tell (x3.toInt64) M2) fun M3 => gz_bd (f11_tell (x4.toInt64) M3) fun M5 => some (x2, M5)) else (gz_ck (gz_inb x5 24) <| if (M0.1 (gz_cIx (M0.1 0 5) + 6) x5.toNatClampNeg) = x1 then (gz_lt (x2 + 1) fun v9 => gz_ck (gz_inb x5 24) <| gz_ck (gz_inb x5 24) <| gz_lt (x3 + ((M0.1 (gz_cIx (M0.1 0 5) + 3) x5.toNatClampNeg) - (M0.1 (gz_cIx (M0.1 0 5) + 2) x5.toNatClampNeg))) fun v12 => gz_ck (gz_inb x5 24) <| if (M0.1 (gz_cIx (M0.1 0 5) + 1) x5.toNatClampNeg) = (-1) then (gz_lt (x4 + 1) fun v15 => gz_lt (x5 + 1) fun v16 => f11_moded_19 n x1 v9 v12 v15 v16 M0) else (gz_lt (x4 + 0) fun v17 => gz_lt (x5 + 1) fun v18 => f11_moded_19 n x1 v9 v12 v17 v18 M0)) else (gz_lt (x5 + 1) fun v19 => f11_moded_19 n x1 x2 x3 x4 v19 M0))
theorem b11_moded_19 {x : gz_X} {pf : Nat → Bool} {l : Launch} {r : Int32} {M' : gz_M} (X : gz_Ok x cX11_moded RX11 6 2 gz_cfC pf l) (hc : gx_cells x ≤ (gx_R x).cells ∧ gx_slots x ≤ (gx_R x).slots) (hE : gz_EI x cX11_moded .int r M') : ∀ (n : Nat) (x1 : Int32) (x2 : Int32) (x3 : Int32) (x4 : Int32) (x5 : Int32) (M0 : gz_M), f11_moded_19 n x1 x2 x3 x4 x5 M0 = some (r, M') → gz_At x 19 [(0, .ref (gx_ad x 0)), (1, .int x1), (2, .int x2), (3, .int x3), (4, .int x4), (5, .int x5)] [] M0 := by
  intro n
  induction n with
  | zero =>
    intro x1 x2 x3 x4 x5 M0  hf
    rw [f11_moded_19] at hf
    cases hf
  | succ n ih =>
    intro x1 x2 x3 x4 x5 M0  hf
    rw [f11_moded_19] at hf
    refine gr_iload X dX11_moded_19 5 rfl ?_
    refine gr_aload_n X dX11_moded_21 0 rfl rfl ?_
    refine gf11_5 X wf_RX11_47 dX11_moded_22 ?_
    refine gf2_0 X (gk_X2o (gi_cut _)) wf_RX11_190 dX11_moded_25 ?_
    refine gr_icmp_ge 102 X dX11_moded_28 (by decide) (fun h1 => ?_) (fun h1 => ?_)
    · rw [if_pos h1] at hf
      refine gr_aload_n X dX11_moded_102 0 rfl rfl ?_
      refine gr_iconst 0 X dX11_moded_103 (by decide) ?_
      obtain ⟨M2, eM2, hf⟩ := gz_lte hf
      refine gp11_15 X wf_RX11_100 eM2 dX11_moded_104 ?_
      refine gr_aload_n X dX11_moded_107 0 rfl rfl ?_
      refine gr_iload_n X dX11_moded_108 3 rfl rfl ?_
      refine gr_i2l X dX11_moded_109 ?_
      obtain ⟨M3, q4, hf⟩ := gz_bde hf
      refine gr_callV (asF := fun ad => [.ref (ad 0), .long (x3.toInt64)]) [.long (x3.toInt64)] X (c11_tell q4) rfl wm_RX11_196 rfl (X.kd gk_C0).1 ((X.kd gk_C0).2 _ _ _ _) rfl (by decide) (by decide) rfl (Nat.le_of_ble_eq_true rfl) hc dX11_moded_110 ?_
      refine gr_aload_n X dX11_moded_113 0 rfl rfl ?_
      refine gr_iload X dX11_moded_114 4 rfl ?_
      refine gr_i2l X dX11_moded_116 ?_
      obtain ⟨M5, q6, hf⟩ := gz_bde hf
      refine gr_callV (asF := fun ad => [.ref (ad 0), .long (x4.toInt64)]) [.long (x4.toInt64)] X (c11_tell q6) rfl wm_RX11_196 rfl (X.kd gk_C0).1 ((X.kd gk_C0).2 _ _ _ _) rfl (by decide) (by decide) rfl (Nat.le_of_ble_eq_true rfl) hc dX11_moded_117 ?_
      refine gr_iload_n X dX11_moded_120 2 rfl rfl ?_
      exact gz_EIu hE hf rfl dX11_moded_121
    · rw [if_neg h1] at hf
      refine gr_aload_n X dX11_moded_31 0 rfl rfl ?_
      refine gf11_5 X wf_RX11_47 dX11_moded_32 ?_
      refine gf2_7 X (gk_X2o (gi_cut _)) wf_RX11_209 dX11_moded_35 ?_
      refine gr_iload X dX11_moded_38 5 rfl ?_
      obtain ⟨h7, hf⟩ := gz_cke hf
      refine gr_iaload X (gk_X26 (gi_cut _)) (gz_inp h7) dX11_moded_40 ?_
      refine gr_iload_n X dX11_moded_41 1 rfl rfl ?_
      refine gr_icmp_ne 96 X dX11_moded_42 (by decide) (fun h8 => ?_) (fun h8 => ?_)
      · rw [if_pos h8] at hf
        obtain ⟨v9, ev9, hf⟩ := gz_lte hf
        refine gr_iinc 1 [(2, .int v9), (0, .ref (gx_ad x 0)), (1, .int x1), (3, .int x3), (4, .int x4), (5, .int x5)] X dX11_moded_45 2 rfl (by decide) ev9 (by decide) rfl ?_
        refine gr_iload_n X dX11_moded_48 3 rfl rfl ?_
        refine gr_aload_n X dX11_moded_49 1 rfl rfl ?_
        refine gf11_5 X wf_RX11_47 dX11_moded_50 ?_
        refine gf2_4 X (gk_X2o (gi_cut _)) wf_RX11_193 dX11_moded_53 ?_
        refine gr_iload X dX11_moded_56 5 rfl ?_
        obtain ⟨h10, hf⟩ := gz_cke hf
        refine gr_iaload X (gk_X23 (gi_cut _)) (gz_inp h10) dX11_moded_58 ?_
        refine gr_aload_n X dX11_moded_59 1 rfl rfl ?_
        refine gf11_5 X wf_RX11_47 dX11_moded_60 ?_
        refine gf2_3 X (gk_X2o (gi_cut _)) wf_RX11_203 dX11_moded_63 ?_
        refine gr_iload X dX11_moded_66 5 rfl ?_
        obtain ⟨h11, hf⟩ := gz_cke hf
        refine gr_iaload X (gk_X22 (gi_cut _)) (gz_inp h11) dX11_moded_68 ?_
        refine gr_isub X dX11_moded_69 ?_
        refine gr_iadd X dX11_moded_70 ?_
        obtain ⟨v12, ev12, hf⟩ := gz_lte hf
        refine gr_istore_n [(3, .int v12), (2, .int v9), (0, .ref (gx_ad x 0)), (1, .int x1), (4, .int x4), (5, .int x5)] X dX11_moded_71 ev12 rfl (by decide) rfl ?_
        refine gr_iload X dX11_moded_72 4 rfl ?_
        refine gr_aload_n X dX11_moded_74 2 rfl rfl ?_
        refine gf11_5 X wf_RX11_47 dX11_moded_75 ?_
        refine gf2_2 X (gk_X2o (gi_cut _)) wf_RX11_200 dX11_moded_78 ?_
        refine gr_iload X dX11_moded_81 5 rfl ?_
        obtain ⟨h13, hf⟩ := gz_cke hf
        refine gr_iaload X (gk_X21 (gi_cut _)) (gz_inp h13) dX11_moded_83 ?_
        refine gr_iconst (-1) X dX11_moded_84 (by decide) ?_
        refine gr_icmp_ne 92 X dX11_moded_85 (by decide) (fun h14 => ?_) (fun h14 => ?_)
        · rw [if_pos h14] at hf
          refine gr_iconst 1 X dX11_moded_88 (by decide) ?_
          refine gr_goto 93 X dX11_moded_89 (by decide) ?_
          refine gr_iadd X dX11_moded_93 ?_
          obtain ⟨v15, ev15, hf⟩ := gz_lte hf
          refine gr_istore [(4, .int v15), (3, .int v12), (2, .int v9), (0, .ref (gx_ad x 0)), (1, .int x1), (5, .int x5)] X dX11_moded_94 ev15 (by decide) rfl ?_
          obtain ⟨v16, ev16, hf⟩ := gz_lte hf
          refine gr_iinc 1 [(5, .int v16), (4, .int v15), (3, .int v12), (2, .int v9), (0, .ref (gx_ad x 0)), (1, .int x1)] X dX11_moded_96 5 rfl (by decide) ev16 (by decide) rfl ?_
          refine gr_goto 19 X dX11_moded_99 (by decide) ?_
          refine gr_sub (lv' := [(0, .ref (gx_ad x 0)), (1, .int x1), (2, .int v9), (3, .int v12), (4, .int v15), (5, .int v16)]) [4, 5, 3, 2, 1, 0] rfl ?_
          exact ih _ _ _ _ _ _ hf
        · rw [if_neg h14] at hf
          refine gr_iconst 0 X dX11_moded_92 (by decide) ?_
          refine gr_iadd X dX11_moded_93 ?_
          obtain ⟨v17, ev17, hf⟩ := gz_lte hf
          refine gr_istore [(4, .int v17), (3, .int v12), (2, .int v9), (0, .ref (gx_ad x 0)), (1, .int x1), (5, .int x5)] X dX11_moded_94 ev17 (by decide) rfl ?_
          obtain ⟨v18, ev18, hf⟩ := gz_lte hf
          refine gr_iinc 1 [(5, .int v18), (4, .int v17), (3, .int v12), (2, .int v9), (0, .ref (gx_ad x 0)), (1, .int x1)] X dX11_moded_96 5 rfl (by decide) ev18 (by decide) rfl ?_
          refine gr_goto 19 X dX11_moded_99 (by decide) ?_
          refine gr_sub (lv' := [(0, .ref (gx_ad x 0)), (1, .int x1), (2, .int v9), (3, .int v12), (4, .int v17), (5, .int v18)]) [4, 5, 3, 2, 1, 0] rfl ?_
          exact ih _ _ _ _ _ _ hf
      · rw [if_neg h8] at hf
        obtain ⟨v19, ev19, hf⟩ := gz_lte hf
        refine gr_iinc 1 [(5, .int v19), (0, .ref (gx_ad x 0)), (1, .int x1), (2, .int x2), (3, .int x3), (4, .int x4)] X dX11_moded_96 5 rfl (by decide) ev19 (by decide) rfl ?_
        refine gr_goto 19 X dX11_moded_99 (by decide) ?_
        refine gr_sub (lv' := [(0, .ref (gx_ad x 0)), (1, .int x1), (2, .int x2), (3, .int x3), (4, .int x4), (5, .int v19)]) [1, 2, 3, 4, 5, 0] rfl ?_
        exact ih _ _ _ _ _ _ hf

def f11_moded (a0 : Int32) (M0 : gz_M) : Option (Int32 × gz_M) := gz_bd2 (f11_isMode a0 M0) fun v1 M2 => if v1 = 0 then (some ((-1), M2)) else (f11_moded_19 gz_FU a0 0 0 0 0 M2)
set_option maxRecDepth 100000 in
theorem c11_moded {pf : Nat → Bool} {l : Launch} {r : Int32} {M0 M' : gz_M} {a0 : Int32} (hf : f11_moded a0 M0 = some (r, M')) : gz_CI l gz_cfC yX11_moded cX11_moded 6 2 .int (fun ad => [.ref (ad 0), .int a0]) pf M0 r M' := by
  refine gz_ofI (by decide +kernel) (fun _ => Nat.le_of_ble_eq_true rfl) (fun x X hc hE => ?_)
  show gz_At x 0 [(0, .ref (gx_ad x 0)), (1, .int a0)] [] M0
  unfold f11_moded at hf
  refine gr_iload_n X dX11_moded_0 1 rfl rfl ?_
  obtain ⟨v1, M2, q3, hf⟩ := gz_bd2e hf
  refine gr_callSI (asF := fun _ => [.int a0]) [.int a0] X (c11_isMode q3) rfl wm_RX11_238 rfl (by decide) (by decide) rfl (Nat.le_of_ble_eq_true rfl) hc dX11_moded_1 ?_
  refine gr_if_ne 9 X dX11_moded_4 (by decide) (fun h4 => ?_) (fun h4 => ?_)
  · rw [if_pos h4] at hf
    refine gr_iconst (-1) X dX11_moded_7 (by decide) ?_
    exact gz_EIu hE hf rfl dX11_moded_8
  · rw [if_neg h4] at hf
    refine gr_iconst 0 X dX11_moded_9 (by decide) ?_
    refine gr_istore_n [(2, .int 0), (0, .ref (gx_ad x 0)), (1, .int a0)] X dX11_moded_10 rfl rfl (by decide) rfl ?_
    refine gr_iconst 0 X dX11_moded_11 (by decide) ?_
    refine gr_istore_n [(3, .int 0), (2, .int 0), (0, .ref (gx_ad x 0)), (1, .int a0)] X dX11_moded_12 rfl rfl (by decide) rfl ?_
    refine gr_iconst 0 X dX11_moded_13 (by decide) ?_
    refine gr_istore [(4, .int 0), (3, .int 0), (2, .int 0), (0, .ref (gx_ad x 0)), (1, .int a0)] X dX11_moded_14 rfl (by decide) rfl ?_
    refine gr_iconst 0 X dX11_moded_16 (by decide) ?_
    refine gr_istore [(5, .int 0), (4, .int 0), (3, .int 0), (2, .int 0), (0, .ref (gx_ad x 0)), (1, .int a0)] X dX11_moded_17 rfl (by decide) rfl ?_
    refine gr_sub (lv' := [(0, .ref (gx_ad x 0)), (1, .int a0), (2, .int 0), (3, .int 0), (4, .int 0), (5, .int 0)]) [4, 5, 3, 2, 1, 0] rfl ?_
    exact b11_moded_19 X hc hE _ _ _ _ _ _ _ hf

def f11_readers_80 (c26 : Int32 → Int32 → Int32 → Int32 → Int32 → gz_M → Option (Int32 × gz_M)) (x1 : Int32) (x2 : Int32) (x4 : Int32) (x5 : Int32) (s0 : Int32) (M0 : gz_M) : Option (Int32 × gz_M) := gz_ck (gz_inb x5 24) <| if (M0.1 (gz_cIx (M0.1 0 5) + 3) x5.toNatClampNeg) ≤ x1 then (gz_lt (x4 + 0) fun v3 => gz_lt (x5 + 1) fun v4 => c26 x1 x2 s0 v3 v4 M0) else (gz_lt (x4 + 1) fun v5 => gz_lt (x5 + 1) fun v6 => c26 x1 x2 s0 v5 v6 M0)
theorem b11_readers_80 {x : gz_X} {pf : Nat → Bool} {l : Launch} {r : Int32} {M' : gz_M} (X : gz_Ok x cX11_readers RX11 6 2 gz_cfC pf l) (hc : gx_cells x ≤ (gx_R x).cells ∧ gx_slots x ≤ (gx_R x).slots) (hE : gz_EI x cX11_readers .int r M') {c26 : Int32 → Int32 → Int32 → Int32 → Int32 → gz_M → Option (Int32 × gz_M)} (hc26 : ∀ (x1 : Int32) (x2 : Int32) (x3 : Int32) (x4 : Int32) (x5 : Int32) (M0 : gz_M), c26 x1 x2 x3 x4 x5 M0 = some (r, M') → gz_At x 26 [(0, .ref (gx_ad x 0)), (1, .int x1), (2, .int x2), (3, .int x3), (4, .int x4), (5, .int x5)] [] M0) : ∀ (x1 : Int32) (x2 : Int32) (x4 : Int32) (x5 : Int32) (s0 : Int32) (M0 : gz_M), f11_readers_80 c26 x1 x2 x4 x5 s0 M0 = some (r, M') → gz_At x 80 [(0, .ref (gx_ad x 0)), (1, .int x1), (2, .int x2), (4, .int x4), (5, .int x5)] [.int s0] M0 := by
  intro x1 x2 x4 x5 s0 M0  hf
  rw [f11_readers_80] at hf
  refine gr_istore_n [(3, .int s0), (0, .ref (gx_ad x 0)), (1, .int x1), (2, .int x2), (4, .int x4), (5, .int x5)] X dX11_readers_80 rfl rfl (by decide) rfl ?_
  refine gr_iload X dX11_readers_81 4 rfl ?_
  refine gr_iload_n X dX11_readers_83 2 rfl rfl ?_
  refine gr_aload_n X dX11_readers_84 1 rfl rfl ?_
  refine gf11_5 X wf_RX11_47 dX11_readers_85 ?_
  refine gf2_4 X (gk_X2o (gi_cut _)) wf_RX11_193 dX11_readers_88 ?_
  refine gr_iload X dX11_readers_91 5 rfl ?_
  obtain ⟨h1, hf⟩ := gz_cke hf
  refine gr_iaload X (gk_X23 (gi_cut _)) (gz_inp h1) dX11_readers_93 ?_
  refine gr_icmp_ge 101 X dX11_readers_94 (by decide) (fun h2 => ?_) (fun h2 => ?_)
  · rw [if_pos h2] at hf
    refine gr_iconst 0 X dX11_readers_101 (by decide) ?_
    refine gr_iadd X dX11_readers_102 ?_
    obtain ⟨v3, ev3, hf⟩ := gz_lte hf
    refine gr_istore [(4, .int v3), (3, .int s0), (0, .ref (gx_ad x 0)), (1, .int x1), (2, .int x2), (5, .int x5)] X dX11_readers_103 ev3 (by decide) rfl ?_
    obtain ⟨v4, ev4, hf⟩ := gz_lte hf
    refine gr_iinc 1 [(5, .int v4), (4, .int v3), (3, .int s0), (0, .ref (gx_ad x 0)), (1, .int x1), (2, .int x2)] X dX11_readers_105 5 rfl (by decide) ev4 (by decide) rfl ?_
    refine gr_goto 26 X dX11_readers_108 (by decide) ?_
    refine gr_sub (lv' := [(0, .ref (gx_ad x 0)), (1, .int x1), (2, .int x2), (3, .int s0), (4, .int v3), (5, .int v4)]) [3, 4, 5, 2, 1, 0] rfl ?_
    exact hc26 _ _ _ _ _ _ hf
  · rw [if_neg h2] at hf
    refine gr_iconst 1 X dX11_readers_97 (by decide) ?_
    refine gr_goto 102 X dX11_readers_98 (by decide) ?_
    refine gr_iadd X dX11_readers_102 ?_
    obtain ⟨v5, ev5, hf⟩ := gz_lte hf
    refine gr_istore [(4, .int v5), (3, .int s0), (0, .ref (gx_ad x 0)), (1, .int x1), (2, .int x2), (5, .int x5)] X dX11_readers_103 ev5 (by decide) rfl ?_
    obtain ⟨v6, ev6, hf⟩ := gz_lte hf
    refine gr_iinc 1 [(5, .int v6), (4, .int v5), (3, .int s0), (0, .ref (gx_ad x 0)), (1, .int x1), (2, .int x2)] X dX11_readers_105 5 rfl (by decide) ev6 (by decide) rfl ?_
    refine gr_goto 26 X dX11_readers_108 (by decide) ?_
    refine gr_sub (lv' := [(0, .ref (gx_ad x 0)), (1, .int x1), (2, .int x2), (3, .int s0), (4, .int v5), (5, .int v6)]) [3, 4, 5, 2, 1, 0] rfl ?_
    exact hc26 _ _ _ _ _ _ hf

def f11_readers_26 : Nat → Int32 → Int32 → Int32 → Int32 → Int32 → gz_M → Option (Int32 × gz_M)
  | 0, _, _, _, _, _, _ => none
  | n + 1, x1, x2, x3, x4, x5, M0 => if (M0.1 (gz_cIx (M0.1 0 5)) 0) ≤ x5 then (gz_lt (gz_w M0 0 15 0) fun M2 => gz_bd (f11_tell (x3.toInt64) M2) fun M3 => gz_bd (f11_tell (x4.toInt64) M3) fun M5 => some (x2, M5)) else (gz_ck (gz_inb x5 24) <| if x1 < (M0.1 (gz_cIx (M0.1 0 5) + 2) x5.toNatClampNeg) then (gz_lt (x5 + 1) fun v9 => f11_readers_26 n x1 x2 x3 x4 v9 M0) else (gz_ck (gz_inb x5 24) <| if (M0.1 (gz_cIx (M0.1 0 5) + 4) x5.toNatClampNeg) ≤ x1 then (gz_lt (x5 + 1) fun v12 => f11_readers_26 n x1 x2 x3 x4 v12 M0) else (gz_lt (x2 + 1) fun v13 => if x3 = (-1) then (f11_readers_80 (f11_readers_26 n) x1 v13 x4 x5 x5 M0) else (f11_readers_80 (f11_readers_26 n) x1 v13 x4 x5 x3 M0))))
theorem b11_readers_26 {x : gz_X} {pf : Nat → Bool} {l : Launch} {r : Int32} {M' : gz_M} (X : gz_Ok x cX11_readers RX11 6 2 gz_cfC pf l) (hc : gx_cells x ≤ (gx_R x).cells ∧ gx_slots x ≤ (gx_R x).slots) (hE : gz_EI x cX11_readers .int r M') : ∀ (n : Nat) (x1 : Int32) (x2 : Int32) (x3 : Int32) (x4 : Int32) (x5 : Int32) (M0 : gz_M), f11_readers_26 n x1 x2 x3 x4 x5 M0 = some (r, M') → gz_At x 26 [(0, .ref (gx_ad x 0)), (1, .int x1), (2, .int x2), (3, .int x3), (4, .int x4), (5, .int x5)] [] M0 := by
  intro n
  induction n with
  | zero =>
    intro x1 x2 x3 x4 x5 M0  hf
    rw [f11_readers_26] at hf
    cases hf
  | succ n ih =>
    intro x1 x2 x3 x4 x5 M0  hf
    rw [f11_readers_26] at hf
    refine gr_iload X dX11_readers_26 5 rfl ?_
    refine gr_aload_n X dX11_readers_28 0 rfl rfl ?_
    refine gf11_5 X wf_RX11_47 dX11_readers_29 ?_
    refine gf2_0 X (gk_X2o (gi_cut _)) wf_RX11_190 dX11_readers_32 ?_
    refine gr_icmp_ge 111 X dX11_readers_35 (by decide) (fun h1 => ?_) (fun h1 => ?_)
    · rw [if_pos h1] at hf
      refine gr_aload_n X dX11_readers_111 0 rfl rfl ?_
      refine gr_iconst 0 X dX11_readers_112 (by decide) ?_
      obtain ⟨M2, eM2, hf⟩ := gz_lte hf
      refine gp11_15 X wf_RX11_100 eM2 dX11_readers_113 ?_
      refine gr_aload_n X dX11_readers_116 0 rfl rfl ?_
      refine gr_iload_n X dX11_readers_117 3 rfl rfl ?_
      refine gr_i2l X dX11_readers_118 ?_
      obtain ⟨M3, q4, hf⟩ := gz_bde hf
      refine gr_callV (asF := fun ad => [.ref (ad 0), .long (x3.toInt64)]) [.long (x3.toInt64)] X (c11_tell q4) rfl wm_RX11_196 rfl (X.kd gk_C0).1 ((X.kd gk_C0).2 _ _ _ _) rfl (by decide) (by decide) rfl (Nat.le_of_ble_eq_true rfl) hc dX11_readers_119 ?_
      refine gr_aload_n X dX11_readers_122 0 rfl rfl ?_
      refine gr_iload X dX11_readers_123 4 rfl ?_
      refine gr_i2l X dX11_readers_125 ?_
      obtain ⟨M5, q6, hf⟩ := gz_bde hf
      refine gr_callV (asF := fun ad => [.ref (ad 0), .long (x4.toInt64)]) [.long (x4.toInt64)] X (c11_tell q6) rfl wm_RX11_196 rfl (X.kd gk_C0).1 ((X.kd gk_C0).2 _ _ _ _) rfl (by decide) (by decide) rfl (Nat.le_of_ble_eq_true rfl) hc dX11_readers_126 ?_
      refine gr_iload_n X dX11_readers_129 2 rfl rfl ?_
      exact gz_EIu hE hf rfl dX11_readers_130
    · rw [if_neg h1] at hf
      refine gr_aload_n X dX11_readers_38 0 rfl rfl ?_
      refine gf11_5 X wf_RX11_47 dX11_readers_39 ?_
      refine gf2_3 X (gk_X2o (gi_cut _)) wf_RX11_203 dX11_readers_42 ?_
      refine gr_iload X dX11_readers_45 5 rfl ?_
      obtain ⟨h7, hf⟩ := gz_cke hf
      refine gr_iaload X (gk_X22 (gi_cut _)) (gz_inp h7) dX11_readers_47 ?_
      refine gr_iload_n X dX11_readers_48 1 rfl rfl ?_
      refine gr_icmp_gt 105 X dX11_readers_49 (by decide) (fun h8 => ?_) (fun h8 => ?_)
      · rw [if_pos h8] at hf
        obtain ⟨v9, ev9, hf⟩ := gz_lte hf
        refine gr_iinc 1 [(5, .int v9), (0, .ref (gx_ad x 0)), (1, .int x1), (2, .int x2), (3, .int x3), (4, .int x4)] X dX11_readers_105 5 rfl (by decide) ev9 (by decide) rfl ?_
        refine gr_goto 26 X dX11_readers_108 (by decide) ?_
        refine gr_sub (lv' := [(0, .ref (gx_ad x 0)), (1, .int x1), (2, .int x2), (3, .int x3), (4, .int x4), (5, .int v9)]) [1, 2, 3, 4, 5, 0] rfl ?_
        exact ih _ _ _ _ _ _ hf
      · rw [if_neg h8] at hf
        refine gr_iload_n X dX11_readers_52 1 rfl rfl ?_
        refine gr_aload_n X dX11_readers_53 0 rfl rfl ?_
        refine gf11_5 X wf_RX11_47 dX11_readers_54 ?_
        refine gf2_5 X (gk_X2o (gi_cut _)) wf_RX11_241 dX11_readers_57 ?_
        refine gr_iload X dX11_readers_60 5 rfl ?_
        obtain ⟨h10, hf⟩ := gz_cke hf
        refine gr_iaload X (gk_X24 (gi_cut _)) (gz_inp h10) dX11_readers_62 ?_
        refine gr_icmp_ge 105 X dX11_readers_63 (by decide) (fun h11 => ?_) (fun h11 => ?_)
        · rw [if_pos h11] at hf
          obtain ⟨v12, ev12, hf⟩ := gz_lte hf
          refine gr_iinc 1 [(5, .int v12), (0, .ref (gx_ad x 0)), (1, .int x1), (2, .int x2), (3, .int x3), (4, .int x4)] X dX11_readers_105 5 rfl (by decide) ev12 (by decide) rfl ?_
          refine gr_goto 26 X dX11_readers_108 (by decide) ?_
          refine gr_sub (lv' := [(0, .ref (gx_ad x 0)), (1, .int x1), (2, .int x2), (3, .int x3), (4, .int x4), (5, .int v12)]) [1, 2, 3, 4, 5, 0] rfl ?_
          exact ih _ _ _ _ _ _ hf
        · rw [if_neg h11] at hf
          obtain ⟨v13, ev13, hf⟩ := gz_lte hf
          refine gr_iinc 1 [(2, .int v13), (0, .ref (gx_ad x 0)), (1, .int x1), (3, .int x3), (4, .int x4), (5, .int x5)] X dX11_readers_66 2 rfl (by decide) ev13 (by decide) rfl ?_
          refine gr_iload_n X dX11_readers_69 3 rfl rfl ?_
          refine gr_iconst (-1) X dX11_readers_70 (by decide) ?_
          refine gr_icmp_ne 79 X dX11_readers_71 (by decide) (fun h14 => ?_) (fun h14 => ?_)
          · rw [if_pos h14] at hf
            refine gr_iload X dX11_readers_74 5 rfl ?_
            refine gr_goto 80 X dX11_readers_76 (by decide) ?_
            refine gr_sub (lv' := [(0, .ref (gx_ad x 0)), (1, .int x1), (2, .int v13), (4, .int x4), (5, .int x5)]) [1, 2, 0, 4, 5] rfl ?_
            exact b11_readers_80 X hc hE ih _ _ _ _ _ _ hf
          · rw [if_neg h14] at hf
            refine gr_iload_n X dX11_readers_79 3 rfl rfl ?_
            refine gr_sub (lv' := [(0, .ref (gx_ad x 0)), (1, .int x1), (2, .int v13), (4, .int x4), (5, .int x5)]) [1, 2, 0, 4, 5] rfl ?_
            exact b11_readers_80 X hc hE ih _ _ _ _ _ _ hf

def f11_readers (a0 : Int32) (M0 : gz_M) : Option (Int32 × gz_M) := gz_bd2 (f5_has (7 + 2) a0 M0) fun v1 M2 => if v1 = 0 then (some ((-1), M2)) else (f11_readers_26 gz_FU a0 0 (-1) 0 0 M2)
set_option maxRecDepth 100000 in
theorem c11_readers {pf : Nat → Bool} {l : Launch} {r : Int32} {M0 M' : gz_M} {a0 : Int32} (hf : f11_readers a0 M0 = some (r, M')) : gz_CI l gz_cfC yX11_readers cX11_readers 6 2 .int (fun ad => [.ref (ad 0), .int a0]) pf M0 r M' := by
  refine gz_ofI (by decide +kernel) (fun _ => Nat.le_of_ble_eq_true rfl) (fun x X hc hE => ?_)
  show gz_At x 0 [(0, .ref (gx_ad x 0)), (1, .int a0)] [] M0
  unfold f11_readers at hf
  refine gr_aload_n X dX11_readers_0 0 rfl rfl ?_
  refine gf11_3 X wf_RX11_33 dX11_readers_1 ?_
  refine gf0_2 X (gk_X0o gi_now) wf_RX11_141 dX11_readers_4 ?_
  refine gr_iload_n X dX11_readers_7 1 rfl rfl ?_
  obtain ⟨v1, M2, q3, hf⟩ := gz_bd2e hf
  refine gr_callI (asF := fun ad => [.ref (ad (7 + 2)), .int a0]) [.int a0] X (c5_has (gi_X0line gi_now) q3) rfl wm_RX11_170 rfl (X.kd (gk_X5o (gi_X0line gi_now))).1 ((X.kd (gk_X5o (gi_X0line gi_now))).2 _ _ _ _) rfl (by decide) (by decide) rfl (Nat.le_of_ble_eq_true rfl) hc dX11_readers_8 ?_
  refine gr_if_ne 16 X dX11_readers_11 (by decide) (fun h4 => ?_) (fun h4 => ?_)
  · rw [if_pos h4] at hf
    refine gr_iconst (-1) X dX11_readers_14 (by decide) ?_
    exact gz_EIu hE hf rfl dX11_readers_15
  · rw [if_neg h4] at hf
    refine gr_iconst 0 X dX11_readers_16 (by decide) ?_
    refine gr_istore_n [(2, .int 0), (0, .ref (gx_ad x 0)), (1, .int a0)] X dX11_readers_17 rfl rfl (by decide) rfl ?_
    refine gr_iconst (-1) X dX11_readers_18 (by decide) ?_
    refine gr_istore_n [(3, .int (-1)), (2, .int 0), (0, .ref (gx_ad x 0)), (1, .int a0)] X dX11_readers_19 rfl rfl (by decide) rfl ?_
    refine gr_iconst 0 X dX11_readers_20 (by decide) ?_
    refine gr_istore [(4, .int 0), (3, .int (-1)), (2, .int 0), (0, .ref (gx_ad x 0)), (1, .int a0)] X dX11_readers_21 rfl (by decide) rfl ?_
    refine gr_iconst 0 X dX11_readers_23 (by decide) ?_
    refine gr_istore [(5, .int 0), (4, .int 0), (3, .int (-1)), (2, .int 0), (0, .ref (gx_ad x 0)), (1, .int a0)] X dX11_readers_24 rfl (by decide) rfl ?_
    refine gr_sub (lv' := [(0, .ref (gx_ad x 0)), (1, .int a0), (2, .int 0), (3, .int (-1)), (4, .int 0), (5, .int 0)]) [4, 5, 3, 2, 1, 0] rfl ?_
    exact b11_readers_26 X hc hE _ _ _ _ _ _ _ hf

def f11_read (M0 : gz_M) : Option (Int32 × gz_M) := gz_bd (f6_remember 11 (7 + 2) (gz_cIx (M0.1 0 5)) M0) fun M1 => gz_lt (gz_w M1 0 15 0) fun M3 => gz_bd (f11_tell ((M3.1 69 4).toInt64) M3) fun M4 => gz_bd (f11_tell ((M4.1 69 3).toInt64) M4) fun M6 => gz_bd2 (f2_signsRead (gz_cIx (M6.1 0 5)) M6) fun v8 M9 => some (v8, M9)
set_option maxRecDepth 100000 in
theorem c11_read {pf : Nat → Bool} {l : Launch} {r : Int32} {M0 M' : gz_M} (hf : f11_read M0 = some (r, M')) : gz_CI l gz_cfC yX11_read cX11_read 1 5 .int (fun ad => [.ref (ad 0)]) pf M0 r M' := by
  refine gz_ofI (by decide +kernel) (fun _ => Nat.le_of_ble_eq_true rfl) (fun x X hc hE => ?_)
  show gz_At x 0 [(0, .ref (gx_ad x 0))] [] M0
  unfold f11_read at hf
  refine gr_aload_n X dX11_read_0 0 rfl rfl ?_
  refine gf11_9 X wf_RX11_67 dX11_read_1 ?_
  refine gr_aload_n X dX11_read_4 0 rfl rfl ?_
  refine gf11_4 X wf_RX11_40 dX11_read_5 ?_
  refine gr_aload_n X dX11_read_8 0 rfl rfl ?_
  refine gf11_3 X wf_RX11_33 dX11_read_9 ?_
  refine gf0_2 X (gk_X0o gi_now) wf_RX11_141 dX11_read_12 ?_
  refine gr_aload_n X dX11_read_15 0 rfl rfl ?_
  refine gf11_5 X wf_RX11_47 dX11_read_16 ?_
  obtain ⟨M1, q2, hf⟩ := gz_bde hf
  refine gr_callV (asF := fun ad => [.ref (ad 69), .ref (ad 11), .ref (ad (7 + 2)), .ref (ad (gz_cIx (M0.1 0 5)))]) [.ref (gx_ad x 11), .ref (gx_ad x (7 + 2)), .ref (gx_ad x (gz_cIx (M0.1 0 5)))] X (c6_remember gi_table (gi_X0line gi_now) (gi_cut _) q2) rfl wm_RX11_244 rfl (X.kd gk_C69).1 ((X.kd gk_C69).2 _ _ _ _) rfl (by decide) (by decide) rfl (Nat.le_of_ble_eq_true rfl) hc dX11_read_19 ?_
  refine gr_aload_n X dX11_read_22 0 rfl rfl ?_
  refine gr_iconst 0 X dX11_read_23 (by decide) ?_
  obtain ⟨M3, eM3, hf⟩ := gz_lte hf
  refine gp11_15 X wf_RX11_100 eM3 dX11_read_24 ?_
  refine gr_aload_n X dX11_read_27 0 rfl rfl ?_
  refine gr_aload_n X dX11_read_28 0 rfl rfl ?_
  refine gf11_9 X wf_RX11_67 dX11_read_29 ?_
  refine gf6_4 X wf_RX11_248 dX11_read_32 ?_
  refine gr_i2l X dX11_read_35 ?_
  obtain ⟨M4, q5, hf⟩ := gz_bde hf
  refine gr_callV (asF := fun ad => [.ref (ad 0), .long ((M3.1 69 4).toInt64)]) [.long ((M3.1 69 4).toInt64)] X (c11_tell q5) rfl wm_RX11_196 rfl (X.kd gk_C0).1 ((X.kd gk_C0).2 _ _ _ _) rfl (by decide) (by decide) rfl (Nat.le_of_ble_eq_true rfl) hc dX11_read_36 ?_
  refine gr_aload_n X dX11_read_39 0 rfl rfl ?_
  refine gr_aload_n X dX11_read_40 0 rfl rfl ?_
  refine gf11_9 X wf_RX11_67 dX11_read_41 ?_
  refine gf6_3 X wf_RX11_251 dX11_read_44 ?_
  refine gr_i2l X dX11_read_47 ?_
  obtain ⟨M6, q7, hf⟩ := gz_bde hf
  refine gr_callV (asF := fun ad => [.ref (ad 0), .long ((M4.1 69 3).toInt64)]) [.long ((M4.1 69 3).toInt64)] X (c11_tell q7) rfl wm_RX11_196 rfl (X.kd gk_C0).1 ((X.kd gk_C0).2 _ _ _ _) rfl (by decide) (by decide) rfl (Nat.le_of_ble_eq_true rfl) hc dX11_read_48 ?_
  refine gr_aload_n X dX11_read_51 0 rfl rfl ?_
  refine gf11_5 X wf_RX11_47 dX11_read_52 ?_
  obtain ⟨v8, M9, q10, hf⟩ := gz_bd2e hf
  refine gr_callI (asF := fun ad => [.ref (ad (gz_cIx (M6.1 0 5)))]) [] X (c2_signsRead (gi_cut _) q10) rfl wm_RX11_252 rfl (X.kd (gk_X2o (gi_cut _))).1 ((X.kd (gk_X2o (gi_cut _))).2 _ _ _ _) rfl (by decide) (by decide) rfl (Nat.le_of_ble_eq_true rfl) hc dX11_read_55 ?_
  exact gz_EIu hE hf rfl dX11_read_58

def f11_twice_47 (s0 : Int64) (M0 : gz_M) : Option (Int32 × gz_M) := gz_bd (f11_tell s0 M0) fun M1 => gz_bd2 (f6_repeated M1) fun v3 M4 => some (v3, M4)
theorem b11_twice_47 {x : gz_X} {pf : Nat → Bool} {l : Launch} {r : Int32} {M' : gz_M} (X : gz_Ok x cX11_twice RX11 2 4 gz_cfC pf l) (hc : gx_cells x ≤ (gx_R x).cells ∧ gx_slots x ≤ (gx_R x).slots) (hE : gz_EI x cX11_twice .int r M') : ∀ (s0 : Int64) (M0 : gz_M), f11_twice_47 s0 M0 = some (r, M') → gz_At x 47 [(0, .ref (gx_ad x 0))] [.long s0, .ref (gx_ad x 0)] M0 := by
  intro s0 M0  hf
  rw [f11_twice_47] at hf
  obtain ⟨M1, q2, hf⟩ := gz_bde hf
  refine gr_callV (asF := fun ad => [.ref (ad 0), .long s0]) [.long s0] X (c11_tell q2) rfl wm_RX11_196 rfl (X.kd gk_C0).1 ((X.kd gk_C0).2 _ _ _ _) rfl (by decide) (by decide) rfl (Nat.le_of_ble_eq_true rfl) hc dX11_twice_47 ?_
  refine gr_aload_n X dX11_twice_50 0 rfl rfl ?_
  refine gf11_9 X wf_RX11_67 dX11_twice_51 ?_
  obtain ⟨v3, M4, q5, hf⟩ := gz_bd2e hf
  refine gr_callI (asF := fun ad => [.ref (ad 69)]) [] X (c6_repeated q5) rfl wm_RX11_260 rfl (X.kd gk_C69).1 ((X.kd gk_C69).2 _ _ _ _) rfl (by decide) (by decide) rfl (Nat.le_of_ble_eq_true rfl) hc dX11_twice_54 ?_
  exact gz_EIu hE hf rfl dX11_twice_57

def f11_twice (M0 : gz_M) : Option (Int32 × gz_M) := gz_bd (f6_walk 11 (7 + 2) (gz_cIx (M0.1 0 5)) M0) fun M1 => gz_lt (gz_w M1 0 15 0) fun M3 => gz_bd2 (f6_mostTimes M3) fun v4 M5 => if v4 ≤ 1 then (f11_twice_47 0 M5) else (f11_twice_47 (v4.toInt64) M5)
set_option maxRecDepth 100000 in
theorem c11_twice {pf : Nat → Bool} {l : Launch} {r : Int32} {M0 M' : gz_M} (hf : f11_twice M0 = some (r, M')) : gz_CI l gz_cfC yX11_twice cX11_twice 2 4 .int (fun ad => [.ref (ad 0)]) pf M0 r M' := by
  refine gz_ofI (by decide +kernel) (fun _ => Nat.le_of_ble_eq_true rfl) (fun x X hc hE => ?_)
  show gz_At x 0 [(0, .ref (gx_ad x 0))] [] M0
  unfold f11_twice at hf
  refine gr_aload_n X dX11_twice_0 0 rfl rfl ?_
  refine gf11_9 X wf_RX11_67 dX11_twice_1 ?_
  refine gr_aload_n X dX11_twice_4 0 rfl rfl ?_
  refine gf11_4 X wf_RX11_40 dX11_twice_5 ?_
  refine gr_aload_n X dX11_twice_8 0 rfl rfl ?_
  refine gf11_3 X wf_RX11_33 dX11_twice_9 ?_
  refine gf0_2 X (gk_X0o gi_now) wf_RX11_141 dX11_twice_12 ?_
  refine gr_aload_n X dX11_twice_15 0 rfl rfl ?_
  refine gf11_5 X wf_RX11_47 dX11_twice_16 ?_
  obtain ⟨M1, q2, hf⟩ := gz_bde hf
  refine gr_callV (asF := fun ad => [.ref (ad 69), .ref (ad 11), .ref (ad (7 + 2)), .ref (ad (gz_cIx (M0.1 0 5)))]) [.ref (gx_ad x 11), .ref (gx_ad x (7 + 2)), .ref (gx_ad x (gz_cIx (M0.1 0 5)))] X (c6_walk gi_table (gi_X0line gi_now) (gi_cut _) q2) rfl wm_RX11_254 rfl (X.kd gk_C69).1 ((X.kd gk_C69).2 _ _ _ _) rfl (by decide) (by decide) rfl (Nat.le_of_ble_eq_true rfl) hc dX11_twice_19 ?_
  refine gr_aload_n X dX11_twice_22 0 rfl rfl ?_
  refine gr_iconst 0 X dX11_twice_23 (by decide) ?_
  obtain ⟨M3, eM3, hf⟩ := gz_lte hf
  refine gp11_15 X wf_RX11_100 eM3 dX11_twice_24 ?_
  refine gr_aload_n X dX11_twice_27 0 rfl rfl ?_
  refine gf11_9 X wf_RX11_67 dX11_twice_28 ?_
  obtain ⟨v4, M5, q6, hf⟩ := gz_bd2e hf
  refine gr_callI (asF := fun ad => [.ref (ad 69)]) [] X (c6_mostTimes q6) rfl wm_RX11_257 rfl (X.kd gk_C69).1 ((X.kd gk_C69).2 _ _ _ _) rfl (by decide) (by decide) rfl (Nat.le_of_ble_eq_true rfl) hc dX11_twice_31 ?_
  refine gr_istore_n [(1, .int v4), (0, .ref (gx_ad x 0))] X dX11_twice_34 rfl rfl (by decide) rfl ?_
  refine gr_aload_n X dX11_twice_35 1 rfl rfl ?_
  refine gr_iload_n X dX11_twice_36 0 rfl rfl ?_
  refine gr_iconst 1 X dX11_twice_37 (by decide) ?_
  refine gr_icmp_le 46 X dX11_twice_38 (by decide) (fun h7 => ?_) (fun h7 => ?_)
  · rw [if_pos h7] at hf
    refine gr_lconst 0 X dX11_twice_46 rfl ?_
    refine gr_sub (lv' := [(0, .ref (gx_ad x 0))]) [1] rfl ?_
    exact b11_twice_47 X hc hE _ _ hf
  · rw [if_neg h7] at hf
    refine gr_iload_n X dX11_twice_41 0 rfl rfl ?_
    refine gr_i2l X dX11_twice_42 ?_
    refine gr_goto 47 X dX11_twice_43 (by decide) ?_
    refine gr_sub (lv' := [(0, .ref (gx_ad x 0))]) [1] rfl ?_
    exact b11_twice_47 X hc hE _ _ hf

def f11_longest (a0 : Int32) (a1 : Int32) (M0 : gz_M) : Option (Int32 × gz_M) := gz_bd2 (f11_isMode a0 M0) fun v1 M2 => if v1 = 0 then (some ((-1), M2)) else (if a1 < 0 then (some ((-1), M2)) else (if a1 ≤ (M2.1 (7 + 2) 1) then (gz_bd (f2_readFrom (gz_cIx (M2.1 0 8)) 11 (7 + 2) a0 a1 M2) fun M7 => if (M7.1 (gz_cIx (M7.1 0 8)) 12) = (-1) then (some ((-2), M7)) else (gz_lt (gz_w M7 0 15 0) fun M10 => gz_bd (f11_tell ((M10.1 (gz_cIx (M10.1 0 8)) 12).toInt64) M10) fun M11 => some ((M11.1 (gz_cIx (M11.1 0 8)) 13) - a1, M11))) else (some ((-1), M2))))
set_option maxRecDepth 100000 in
theorem c11_longest {pf : Nat → Bool} {l : Launch} {r : Int32} {M0 M' : gz_M} {a0 : Int32} {a1 : Int32} (hf : f11_longest a0 a1 M0 = some (r, M')) : gz_CI l gz_cfC yX11_longest cX11_longest 3 4 .int (fun ad => [.ref (ad 0), .int a0, .int a1]) pf M0 r M' := by
  refine gz_ofI (by decide +kernel) (fun _ => Nat.le_of_ble_eq_true rfl) (fun x X hc hE => ?_)
  show gz_At x 0 [(0, .ref (gx_ad x 0)), (1, .int a0), (2, .int a1)] [] M0
  unfold f11_longest at hf
  refine gr_iload_n X dX11_longest_0 1 rfl rfl ?_
  obtain ⟨v1, M2, q3, hf⟩ := gz_bd2e hf
  refine gr_callSI (asF := fun _ => [.int a0]) [.int a0] X (c11_isMode q3) rfl wm_RX11_238 rfl (by decide) (by decide) rfl (Nat.le_of_ble_eq_true rfl) hc dX11_longest_1 ?_
  refine gr_if_eq 25 X dX11_longest_4 (by decide) (fun h4 => ?_) (fun h4 => ?_)
  · rw [if_pos h4] at hf
    refine gr_iconst (-1) X dX11_longest_25 (by decide) ?_
    exact gz_EIu hE hf rfl dX11_longest_26
  · rw [if_neg h4] at hf
    refine gr_iload_n X dX11_longest_7 2 rfl rfl ?_
    refine gr_if_lt 25 X dX11_longest_8 (by decide) (fun h5 => ?_) (fun h5 => ?_)
    · rw [if_pos h5] at hf
      refine gr_iconst (-1) X dX11_longest_25 (by decide) ?_
      exact gz_EIu hE hf rfl dX11_longest_26
    · rw [if_neg h5] at hf
      refine gr_iload_n X dX11_longest_11 2 rfl rfl ?_
      refine gr_aload_n X dX11_longest_12 0 rfl rfl ?_
      refine gf11_3 X wf_RX11_33 dX11_longest_13 ?_
      refine gf0_2 X (gk_X0o gi_now) wf_RX11_141 dX11_longest_16 ?_
      refine gf5_1 X (gk_X5o (gi_X0line gi_now)) wf_RX11_150 dX11_longest_19 ?_
      refine gr_icmp_le 27 X dX11_longest_22 (by decide) (fun h6 => ?_) (fun h6 => ?_)
      · rw [if_pos h6] at hf
        refine gr_aload_n X dX11_longest_27 0 rfl rfl ?_
        refine gf11_8 X wf_RX11_61 dX11_longest_28 ?_
        refine gr_aload_n X dX11_longest_31 0 rfl rfl ?_
        refine gf11_4 X wf_RX11_40 dX11_longest_32 ?_
        refine gr_aload_n X dX11_longest_35 0 rfl rfl ?_
        refine gf11_3 X wf_RX11_33 dX11_longest_36 ?_
        refine gf0_2 X (gk_X0o gi_now) wf_RX11_141 dX11_longest_39 ?_
        refine gr_iload_n X dX11_longest_42 1 rfl rfl ?_
        refine gr_iload_n X dX11_longest_43 2 rfl rfl ?_
        obtain ⟨M7, q8, hf⟩ := gz_bde hf
        refine gr_callV (asF := fun ad => [.ref (ad (gz_cIx (M2.1 0 8))), .ref (ad 11), .ref (ad (7 + 2)), .int a0, .int a1]) [.ref (gx_ad x 11), .ref (gx_ad x (7 + 2)), .int a0, .int a1] X (c2_readFrom (gi_cut _) gi_table (gi_X0line gi_now) q8) rfl wm_RX11_263 rfl (X.kd (gk_X2o (gi_cut _))).1 ((X.kd (gk_X2o (gi_cut _))).2 _ _ _ _) rfl (by decide) (by decide) rfl (Nat.le_of_ble_eq_true rfl) hc dX11_longest_44 ?_
        refine gr_aload_n X dX11_longest_47 0 rfl rfl ?_
        refine gf11_8 X wf_RX11_61 dX11_longest_48 ?_
        refine gf2_12 X (gk_X2o (gi_cut _)) wf_RX11_267 dX11_longest_51 ?_
        refine gr_iconst (-1) X dX11_longest_54 (by decide) ?_
        refine gr_icmp_ne 61 X dX11_longest_55 (by decide) (fun h9 => ?_) (fun h9 => ?_)
        · rw [if_pos h9] at hf
          refine gr_bipush (-2) X dX11_longest_58 (by decide) ?_
          exact gz_EIu hE hf rfl dX11_longest_60
        · rw [if_neg h9] at hf
          refine gr_aload_n X dX11_longest_61 0 rfl rfl ?_
          refine gr_iconst 0 X dX11_longest_62 (by decide) ?_
          obtain ⟨M10, eM10, hf⟩ := gz_lte hf
          refine gp11_15 X wf_RX11_100 eM10 dX11_longest_63 ?_
          refine gr_aload_n X dX11_longest_66 0 rfl rfl ?_
          refine gr_aload_n X dX11_longest_67 0 rfl rfl ?_
          refine gf11_8 X wf_RX11_61 dX11_longest_68 ?_
          refine gf2_12 X (gk_X2o (gi_cut _)) wf_RX11_267 dX11_longest_71 ?_
          refine gr_i2l X dX11_longest_74 ?_
          obtain ⟨M11, q12, hf⟩ := gz_bde hf
          refine gr_callV (asF := fun ad => [.ref (ad 0), .long ((M10.1 (gz_cIx (M10.1 0 8)) 12).toInt64)]) [.long ((M10.1 (gz_cIx (M10.1 0 8)) 12).toInt64)] X (c11_tell q12) rfl wm_RX11_196 rfl (X.kd gk_C0).1 ((X.kd gk_C0).2 _ _ _ _) rfl (by decide) (by decide) rfl (Nat.le_of_ble_eq_true rfl) hc dX11_longest_75 ?_
          refine gr_aload_n X dX11_longest_78 0 rfl rfl ?_
          refine gf11_8 X wf_RX11_61 dX11_longest_79 ?_
          refine gf2_13 X (gk_X2o (gi_cut _)) wf_RX11_270 dX11_longest_82 ?_
          refine gr_iload_n X dX11_longest_85 2 rfl rfl ?_
          refine gr_isub X dX11_longest_86 ?_
          exact gz_EIu hE hf rfl dX11_longest_87
      · rw [if_neg h6] at hf
        refine gr_iconst (-1) X dX11_longest_25 (by decide) ?_
        exact gz_EIu hE hf rfl dX11_longest_26

def f11_firstOf_2 : Nat → Int32 → Int32 → gz_M → Option (Int32 × gz_M)
  | 0, _, _, _ => none
  | n + 1, x0, x1, M0 => if 8 ≤ x1 then (some ((-1), M0)) else (if ((gz_shr x0 x1) &&& 1) = 0 then (gz_lt (x1 + 1) fun v3 => f11_firstOf_2 n x0 v3 M0) else (some (x1, M0)))
theorem b11_firstOf_2 {x : gz_X} {pf : Nat → Bool} {l : Launch} {r : Int32} {M' : gz_M} (X : gz_Ok x cX11_firstOf RX11 2 1 gz_cfC pf l) (hc : gx_cells x ≤ (gx_R x).cells ∧ gx_slots x ≤ (gx_R x).slots) (hE : gz_EI x cX11_firstOf .int r M') : ∀ (n : Nat) (x0 : Int32) (x1 : Int32) (M0 : gz_M), f11_firstOf_2 n x0 x1 M0 = some (r, M') → gz_At x 2 [(0, .int x0), (1, .int x1)] [] M0 := by
  intro n
  induction n with
  | zero =>
    intro x0 x1 M0  hf
    rw [f11_firstOf_2] at hf
    cases hf
  | succ n ih =>
    intro x0 x1 M0  hf
    rw [f11_firstOf_2] at hf
    refine gr_iload_n X dX11_firstOf_2 1 rfl rfl ?_
    refine gr_bipush 8 X dX11_firstOf_3 (by decide) ?_
    refine gr_icmp_ge 24 X dX11_firstOf_5 (by decide) (fun h1 => ?_) (fun h1 => ?_)
    · rw [if_pos h1] at hf
      refine gr_iconst (-1) X dX11_firstOf_24 (by decide) ?_
      exact gz_EIu hE hf rfl dX11_firstOf_25
    · rw [if_neg h1] at hf
      refine gr_iload_n X dX11_firstOf_8 0 rfl rfl ?_
      refine gr_iload_n X dX11_firstOf_9 1 rfl rfl ?_
      refine gr_ishr X dX11_firstOf_10 ?_
      refine gr_iconst 1 X dX11_firstOf_11 (by decide) ?_
      refine gr_iand X dX11_firstOf_12 ?_
      refine gr_if_eq 18 X dX11_firstOf_13 (by decide) (fun h2 => ?_) (fun h2 => ?_)
      · rw [if_pos h2] at hf
        obtain ⟨v3, ev3, hf⟩ := gz_lte hf
        refine gr_iinc 1 [(1, .int v3), (0, .int x0)] X dX11_firstOf_18 1 rfl (by decide) ev3 (by decide) rfl ?_
        refine gr_goto 2 X dX11_firstOf_21 (by decide) ?_
        refine gr_sub (lv' := [(0, .int x0), (1, .int v3)]) [1, 0] rfl ?_
        exact ih _ _ _ hf
      · rw [if_neg h2] at hf
        refine gr_iload_n X dX11_firstOf_16 1 rfl rfl ?_
        exact gz_EIu hE hf rfl dX11_firstOf_17

def f11_firstOf (a0 : Int32) (M0 : gz_M) : Option (Int32 × gz_M) := f11_firstOf_2 gz_FU a0 0 M0
set_option maxRecDepth 100000 in
theorem c11_firstOf {pf : Nat → Bool} {l : Launch} {r : Int32} {M0 M' : gz_M} {a0 : Int32} (hf : f11_firstOf a0 M0 = some (r, M')) : gz_CI l gz_cfC yX11_firstOf cX11_firstOf 2 1 .int (fun _ => [.int a0]) pf M0 r M' := by
  refine gz_ofI (by decide +kernel) (fun _ => Nat.le_of_ble_eq_true rfl) (fun x X hc hE => ?_)
  show gz_At x 0 [(0, .int a0)] [] M0
  unfold f11_firstOf at hf
  refine gr_iconst 0 X dX11_firstOf_0 (by decide) ?_
  refine gr_istore_n [(1, .int 0), (0, .int a0)] X dX11_firstOf_1 rfl rfl (by decide) rfl ?_
  refine gr_sub (lv' := [(0, .int a0), (1, .int 0)]) [1, 0] rfl ?_
  exact b11_firstOf_2 X hc hE _ _ _ _ hf

def f11_isStretch (a0 : Int32) (a1 : Int32) (M0 : gz_M) : Option (Int32 × gz_M) := if a0 < 0 then (some (0, M0)) else (if a1 < a0 then (some (0, M0)) else (if (M0.1 (7 + 2) 1) < a1 then (some (0, M0)) else (some (1, M0))))
set_option maxRecDepth 100000 in
theorem c11_isStretch {pf : Nat → Bool} {l : Launch} {r : Int32} {M0 M' : gz_M} {a0 : Int32} {a1 : Int32} (hf : f11_isStretch a0 a1 M0 = some (r, M')) : gz_CI l gz_cfC yX11_isStretch cX11_isStretch 3 1 .boolean (fun ad => [.ref (ad 0), .int a0, .int a1]) pf M0 r M' := by
  refine gz_ofI (by decide +kernel) (fun _ => Nat.le_of_ble_eq_true rfl) (fun x X hc hE => ?_)
  show gz_At x 0 [(0, .ref (gx_ad x 0)), (1, .int a0), (2, .int a1)] [] M0
  unfold f11_isStretch at hf
  refine gr_iload_n X dX11_isStretch_0 1 rfl rfl ?_
  refine gr_if_lt 27 X dX11_isStretch_1 (by decide) (fun h1 => ?_) (fun h1 => ?_)
  · rw [if_pos h1] at hf
    refine gr_iconst 0 X dX11_isStretch_27 (by decide) ?_
    exact gz_EIu hE hf rfl dX11_isStretch_28
  · rw [if_neg h1] at hf
    refine gr_iload_n X dX11_isStretch_4 1 rfl rfl ?_
    refine gr_iload_n X dX11_isStretch_5 2 rfl rfl ?_
    refine gr_icmp_gt 27 X dX11_isStretch_6 (by decide) (fun h2 => ?_) (fun h2 => ?_)
    · rw [if_pos h2] at hf
      refine gr_iconst 0 X dX11_isStretch_27 (by decide) ?_
      exact gz_EIu hE hf rfl dX11_isStretch_28
    · rw [if_neg h2] at hf
      refine gr_iload_n X dX11_isStretch_9 2 rfl rfl ?_
      refine gr_aload_n X dX11_isStretch_10 0 rfl rfl ?_
      refine gf11_3 X wf_RX11_33 dX11_isStretch_11 ?_
      refine gf0_2 X (gk_X0o gi_now) wf_RX11_141 dX11_isStretch_14 ?_
      refine gf5_1 X (gk_X5o (gi_X0line gi_now)) wf_RX11_150 dX11_isStretch_17 ?_
      refine gr_icmp_gt 27 X dX11_isStretch_20 (by decide) (fun h3 => ?_) (fun h3 => ?_)
      · rw [if_pos h3] at hf
        refine gr_iconst 0 X dX11_isStretch_27 (by decide) ?_
        exact gz_EIu hE hf rfl dX11_isStretch_28
      · rw [if_neg h3] at hf
        refine gr_iconst 1 X dX11_isStretch_23 (by decide) ?_
        refine gr_goto 28 X dX11_isStretch_24 (by decide) ?_
        exact gz_EIu hE hf rfl dX11_isStretch_28

def f11_matches_75 (c21 : Int32 → Int32 → Int32 → Int32 → gz_M → Option (Int32 × gz_M)) (x1 : Int32) (x2 : Int32) (x3 : Int32) (x4 : Int32) (s0 : Int32) (M0 : gz_M) : Option (Int32 × gz_M) := gz_lt (x3 ||| s0) fun v1 => gz_bd2 (f11_firstOf s0 M0) fun v2 M3 => gz_bd (f11_tell (v2.toInt64) M3) fun M5 => gz_lt (x4 + 1) fun v7 => c21 x1 x2 v1 v7 M5
theorem b11_matches_75 {x : gz_X} {pf : Nat → Bool} {l : Launch} {r : Int32} {M' : gz_M} (X : gz_Ok x cX11_matches RX11 7 4 gz_cfC pf l) (hc : gx_cells x ≤ (gx_R x).cells ∧ gx_slots x ≤ (gx_R x).slots) (hE : gz_EI x cX11_matches .int r M') {c21 : Int32 → Int32 → Int32 → Int32 → gz_M → Option (Int32 × gz_M)} (hc21 : ∀ (x1 : Int32) (x2 : Int32) (x3 : Int32) (x4 : Int32) (M0 : gz_M), c21 x1 x2 x3 x4 M0 = some (r, M') → gz_At x 21 [(0, .ref (gx_ad x 0)), (1, .int x1), (2, .int x2), (3, .int x3), (4, .int x4)] [] M0) : ∀ (x1 : Int32) (x2 : Int32) (x3 : Int32) (x4 : Int32) (s0 : Int32) (M0 : gz_M), f11_matches_75 c21 x1 x2 x3 x4 s0 M0 = some (r, M') → gz_At x 75 [(0, .ref (gx_ad x 0)), (1, .int x1), (2, .int x2), (3, .int x3), (4, .int x4)] [.int s0] M0 := by
  intro x1 x2 x3 x4 s0 M0  hf
  rw [f11_matches_75] at hf
  refine gr_istore [(6, .int s0), (0, .ref (gx_ad x 0)), (1, .int x1), (2, .int x2), (3, .int x3), (4, .int x4)] X dX11_matches_75 rfl (by decide) rfl ?_
  refine gr_iload_n X dX11_matches_77 4 rfl rfl ?_
  refine gr_iload X dX11_matches_78 0 rfl ?_
  refine gr_ior X dX11_matches_80 ?_
  obtain ⟨v1, ev1, hf⟩ := gz_lte hf
  refine gr_istore_n [(3, .int v1), (6, .int s0), (0, .ref (gx_ad x 0)), (1, .int x1), (2, .int x2), (4, .int x4)] X dX11_matches_81 ev1 rfl (by decide) rfl ?_
  refine gr_aload_n X dX11_matches_82 2 rfl rfl ?_
  refine gr_iload X dX11_matches_83 1 rfl ?_
  obtain ⟨v2, M3, q4, hf⟩ := gz_bd2e hf
  refine gr_callSI (asF := fun _ => [.int s0]) [.int s0] X (c11_firstOf q4) rfl wm_RX11_287 rfl (by decide) (by decide) rfl (Nat.le_of_ble_eq_true rfl) hc dX11_matches_85 ?_
  refine gr_i2l X dX11_matches_88 ?_
  obtain ⟨M5, q6, hf⟩ := gz_bde hf
  refine gr_callV (asF := fun ad => [.ref (ad 0), .long (v2.toInt64)]) [.long (v2.toInt64)] X (c11_tell q6) rfl wm_RX11_196 rfl (X.kd gk_C0).1 ((X.kd gk_C0).2 _ _ _ _) rfl (by decide) (by decide) rfl (Nat.le_of_ble_eq_true rfl) hc dX11_matches_89 ?_
  obtain ⟨v7, ev7, hf⟩ := gz_lte hf
  refine gr_iinc 1 [(4, .int v7), (3, .int v1), (6, .int s0), (0, .ref (gx_ad x 0)), (1, .int x1), (2, .int x2)] X dX11_matches_92 5 rfl (by decide) ev7 (by decide) rfl ?_
  refine gr_goto 21 X dX11_matches_95 (by decide) ?_
  refine gr_sub (lv' := [(0, .ref (gx_ad x 0)), (1, .int x1), (2, .int x2), (3, .int v1), (4, .int v7)]) [3, 4, 5, 1, 0] rfl ?_
  exact hc21 _ _ _ _ _ hf

def f11_matches_21 : Nat → Int32 → Int32 → Int32 → Int32 → gz_M → Option (Int32 × gz_M)
  | 0, _, _, _, _, _ => none
  | n + 1, x1, x2, x3, x4, M0 => if 4 ≤ x4 then (some (x3, M0)) else (gz_bd2 (f7_standing 11 (7 + 2) x4 x1 x2 M0) fun v2 M3 => if x1 = x2 then (gz_bd2 (f7_matchingNothing 11 x4 M3) fun v6 M7 => f11_matches_75 (f11_matches_21 n) x1 x2 x3 x4 v6 M7) else (gz_bd2 (f7_matching 11 x4 v2 M3) fun v9 M10 => f11_matches_75 (f11_matches_21 n) x1 x2 x3 x4 v9 M10))
theorem b11_matches_21 {x : gz_X} {pf : Nat → Bool} {l : Launch} {r : Int32} {M' : gz_M} (X : gz_Ok x cX11_matches RX11 7 4 gz_cfC pf l) (hc : gx_cells x ≤ (gx_R x).cells ∧ gx_slots x ≤ (gx_R x).slots) (hE : gz_EI x cX11_matches .int r M') : ∀ (n : Nat) (x1 : Int32) (x2 : Int32) (x3 : Int32) (x4 : Int32) (M0 : gz_M), f11_matches_21 n x1 x2 x3 x4 M0 = some (r, M') → gz_At x 21 [(0, .ref (gx_ad x 0)), (1, .int x1), (2, .int x2), (3, .int x3), (4, .int x4)] [] M0 := by
  intro n
  induction n with
  | zero =>
    intro x1 x2 x3 x4 M0  hf
    rw [f11_matches_21] at hf
    cases hf
  | succ n ih =>
    intro x1 x2 x3 x4 M0  hf
    rw [f11_matches_21] at hf
    refine gr_iload X dX11_matches_21 4 rfl ?_
    refine gr_iconst 4 X dX11_matches_23 (by decide) ?_
    refine gr_icmp_ge 98 X dX11_matches_24 (by decide) (fun h1 => ?_) (fun h1 => ?_)
    · rw [if_pos h1] at hf
      refine gr_iload_n X dX11_matches_98 3 rfl rfl ?_
      exact gz_EIu hE hf rfl dX11_matches_99
    · rw [if_neg h1] at hf
      refine gr_aload_n X dX11_matches_27 0 rfl rfl ?_
      refine gf11_4 X wf_RX11_40 dX11_matches_28 ?_
      refine gr_iload X dX11_matches_31 4 rfl ?_
      refine gr_aload_n X dX11_matches_33 0 rfl rfl ?_
      refine gf11_3 X wf_RX11_33 dX11_matches_34 ?_
      refine gf0_2 X (gk_X0o gi_now) wf_RX11_141 dX11_matches_37 ?_
      refine gr_iload_n X dX11_matches_40 1 rfl rfl ?_
      refine gr_iload_n X dX11_matches_41 2 rfl rfl ?_
      obtain ⟨v2, M3, q4, hf⟩ := gz_bd2e hf
      refine gr_callI (asF := fun ad => [.ref (ad 11), .int x4, .ref (ad (7 + 2)), .int x1, .int x2]) [.int x4, .ref (gx_ad x (7 + 2)), .int x1, .int x2] X (c7_standing gi_table (gi_X0line gi_now) q4) rfl wm_RX11_277 rfl (X.kd (gk_X7o gi_table)).1 ((X.kd (gk_X7o gi_table)).2 _ _ _ _) rfl (by decide) (by decide) rfl (Nat.le_of_ble_eq_true rfl) hc dX11_matches_42 ?_
      refine gr_istore [(5, .int v2), (0, .ref (gx_ad x 0)), (1, .int x1), (2, .int x2), (3, .int x3), (4, .int x4)] X dX11_matches_45 rfl (by decide) rfl ?_
      refine gr_iload_n X dX11_matches_47 2 rfl rfl ?_
      refine gr_iload_n X dX11_matches_48 3 rfl rfl ?_
      refine gr_icmp_ne 64 X dX11_matches_49 (by decide) (fun h5 => ?_) (fun h5 => ?_)
      · rw [if_pos h5] at hf
        refine gr_aload_n X dX11_matches_52 1 rfl rfl ?_
        refine gf11_4 X wf_RX11_40 dX11_matches_53 ?_
        refine gr_iload X dX11_matches_56 5 rfl ?_
        obtain ⟨v6, M7, q8, hf⟩ := gz_bd2e hf
        refine gr_callI (asF := fun ad => [.ref (ad 11), .int x4]) [.int x4] X (c7_matchingNothing gi_table q8) rfl wm_RX11_281 rfl (X.kd (gk_X7o gi_table)).1 ((X.kd (gk_X7o gi_table)).2 _ _ _ _) rfl (by decide) (by decide) rfl (Nat.le_of_ble_eq_true rfl) hc dX11_matches_58 ?_
        refine gr_goto 75 X dX11_matches_61 (by decide) ?_
        refine gr_sub (lv' := [(0, .ref (gx_ad x 0)), (1, .int x1), (2, .int x2), (3, .int x3), (4, .int x4)]) [1, 2, 3, 4, 5] rfl ?_
        exact b11_matches_75 X hc hE ih _ _ _ _ _ _ hf
      · rw [if_neg h5] at hf
        refine gr_aload_n X dX11_matches_64 1 rfl rfl ?_
        refine gf11_4 X wf_RX11_40 dX11_matches_65 ?_
        refine gr_iload X dX11_matches_68 5 rfl ?_
        refine gr_iload X dX11_matches_70 0 rfl ?_
        obtain ⟨v9, M10, q11, hf⟩ := gz_bd2e hf
        refine gr_callI (asF := fun ad => [.ref (ad 11), .int x4, .int v2]) [.int x4, .int v2] X (c7_matching gi_table q11) rfl wm_RX11_284 rfl (X.kd (gk_X7o gi_table)).1 ((X.kd (gk_X7o gi_table)).2 _ _ _ _) rfl (by decide) (by decide) rfl (Nat.le_of_ble_eq_true rfl) hc dX11_matches_72 ?_
        refine gr_sub (lv' := [(0, .ref (gx_ad x 0)), (1, .int x1), (2, .int x2), (3, .int x3), (4, .int x4)]) [1, 2, 3, 4, 5] rfl ?_
        exact b11_matches_75 X hc hE ih _ _ _ _ _ _ hf

def f11_matches (a0 : Int32) (a1 : Int32) (M0 : gz_M) : Option (Int32 × gz_M) := gz_bd2 (f11_isStretch a0 a1 M0) fun v1 M2 => if v1 = 0 then (some ((-1), M2)) else (gz_lt (gz_w M2 0 15 0) fun M5 => f11_matches_21 gz_FU a0 a1 0 0 M5)
set_option maxRecDepth 100000 in
theorem c11_matches {pf : Nat → Bool} {l : Launch} {r : Int32} {M0 M' : gz_M} {a0 : Int32} {a1 : Int32} (hf : f11_matches a0 a1 M0 = some (r, M')) : gz_CI l gz_cfC yX11_matches cX11_matches 7 4 .int (fun ad => [.ref (ad 0), .int a0, .int a1]) pf M0 r M' := by
  refine gz_ofI (by decide +kernel) (fun _ => Nat.le_of_ble_eq_true rfl) (fun x X hc hE => ?_)
  show gz_At x 0 [(0, .ref (gx_ad x 0)), (1, .int a0), (2, .int a1)] [] M0
  unfold f11_matches at hf
  refine gr_aload_n X dX11_matches_0 0 rfl rfl ?_
  refine gr_iload_n X dX11_matches_1 1 rfl rfl ?_
  refine gr_iload_n X dX11_matches_2 2 rfl rfl ?_
  obtain ⟨v1, M2, q3, hf⟩ := gz_bd2e hf
  refine gr_callI (asF := fun ad => [.ref (ad 0), .int a0, .int a1]) [.int a0, .int a1] X (c11_isStretch q3) rfl wm_RX11_273 rfl (X.kd gk_C0).1 ((X.kd gk_C0).2 _ _ _ _) rfl (by decide) (by decide) rfl (Nat.le_of_ble_eq_true rfl) hc dX11_matches_3 ?_
  refine gr_if_ne 11 X dX11_matches_6 (by decide) (fun h4 => ?_) (fun h4 => ?_)
  · rw [if_pos h4] at hf
    refine gr_iconst (-1) X dX11_matches_9 (by decide) ?_
    exact gz_EIu hE hf rfl dX11_matches_10
  · rw [if_neg h4] at hf
    refine gr_iconst 0 X dX11_matches_11 (by decide) ?_
    refine gr_istore_n [(3, .int 0), (0, .ref (gx_ad x 0)), (1, .int a0), (2, .int a1)] X dX11_matches_12 rfl rfl (by decide) rfl ?_
    refine gr_aload_n X dX11_matches_13 1 rfl rfl ?_
    refine gr_iconst 0 X dX11_matches_14 (by decide) ?_
    obtain ⟨M5, eM5, hf⟩ := gz_lte hf
    refine gp11_15 X wf_RX11_100 eM5 dX11_matches_15 ?_
    refine gr_iconst 0 X dX11_matches_18 (by decide) ?_
    refine gr_istore [(4, .int 0), (3, .int 0), (0, .ref (gx_ad x 0)), (1, .int a0), (2, .int a1)] X dX11_matches_19 rfl (by decide) rfl ?_
    refine gr_sub (lv' := [(0, .ref (gx_ad x 0)), (1, .int a0), (2, .int a1), (3, .int 0), (4, .int 0)]) [2, 3, 4, 1, 0] rfl ?_
    exact b11_matches_21 X hc hE _ _ _ _ _ _ hf

def f11_stands (a0 : Int32) (a1 : Int32) (a2 : Int32) (M0 : gz_M) : Option (Int32 × gz_M) := gz_bd2 (f11_isMode a0 M0) fun v1 M2 => if v1 = 0 then (some ((-1), M2)) else (gz_bd2 (f11_isStretch a1 a2 M2) fun v5 M6 => if v5 = 0 then (some ((-1), M6)) else (if a1 = a2 then (some ((-1), M6)) else (gz_bd2 (f7_standing 11 (7 + 2) a0 a1 a2 M6) fun v10 M11 => gz_lt (gz_w M11 0 15 0) fun M13 => gz_bd2 (f7_after 11 a0 v10 M13) fun v14 M15 => gz_bd2 (f7_signsTakenBy 11 a0 v14 M15) fun v17 M18 => gz_bd (f11_tell (v17.toInt64) M18) fun M20 => gz_bd2 (fJ_bitCount v10 M20) fun v22 M23 => some (v22, M23))))
set_option maxRecDepth 100000 in
theorem c11_stands {pf : Nat → Bool} {l : Launch} {r : Int32} {M0 M' : gz_M} {a0 : Int32} {a1 : Int32} {a2 : Int32} (hf : f11_stands a0 a1 a2 M0 = some (r, M')) : gz_CI l gz_cfC yX11_stands cX11_stands 5 4 .int (fun ad => [.ref (ad 0), .int a0, .int a1, .int a2]) pf M0 r M' := by
  refine gz_ofI (by decide +kernel) (fun _ => Nat.le_of_ble_eq_true rfl) (fun x X hc hE => ?_)
  show gz_At x 0 [(0, .ref (gx_ad x 0)), (1, .int a0), (2, .int a1), (3, .int a2)] [] M0
  unfold f11_stands at hf
  refine gr_iload_n X dX11_stands_0 1 rfl rfl ?_
  obtain ⟨v1, M2, q3, hf⟩ := gz_bd2e hf
  refine gr_callSI (asF := fun _ => [.int a0]) [.int a0] X (c11_isMode q3) rfl wm_RX11_238 rfl (by decide) (by decide) rfl (Nat.le_of_ble_eq_true rfl) hc dX11_stands_1 ?_
  refine gr_if_eq 21 X dX11_stands_4 (by decide) (fun h4 => ?_) (fun h4 => ?_)
  · rw [if_pos h4] at hf
    refine gr_iconst (-1) X dX11_stands_21 (by decide) ?_
    exact gz_EIu hE hf rfl dX11_stands_22
  · rw [if_neg h4] at hf
    refine gr_aload_n X dX11_stands_7 0 rfl rfl ?_
    refine gr_iload_n X dX11_stands_8 2 rfl rfl ?_
    refine gr_iload_n X dX11_stands_9 3 rfl rfl ?_
    obtain ⟨v5, M6, q7, hf⟩ := gz_bd2e hf
    refine gr_callI (asF := fun ad => [.ref (ad 0), .int a1, .int a2]) [.int a1, .int a2] X (c11_isStretch q7) rfl wm_RX11_273 rfl (X.kd gk_C0).1 ((X.kd gk_C0).2 _ _ _ _) rfl (by decide) (by decide) rfl (Nat.le_of_ble_eq_true rfl) hc dX11_stands_10 ?_
    refine gr_if_eq 21 X dX11_stands_13 (by decide) (fun h8 => ?_) (fun h8 => ?_)
    · rw [if_pos h8] at hf
      refine gr_iconst (-1) X dX11_stands_21 (by decide) ?_
      exact gz_EIu hE hf rfl dX11_stands_22
    · rw [if_neg h8] at hf
      refine gr_iload_n X dX11_stands_16 2 rfl rfl ?_
      refine gr_iload_n X dX11_stands_17 3 rfl rfl ?_
      refine gr_icmp_ne 23 X dX11_stands_18 (by decide) (fun h9 => ?_) (fun h9 => ?_)
      · rw [if_pos h9] at hf
        refine gr_iconst (-1) X dX11_stands_21 (by decide) ?_
        exact gz_EIu hE hf rfl dX11_stands_22
      · rw [if_neg h9] at hf
        refine gr_aload_n X dX11_stands_23 0 rfl rfl ?_
        refine gf11_4 X wf_RX11_40 dX11_stands_24 ?_
        refine gr_iload_n X dX11_stands_27 1 rfl rfl ?_
        refine gr_aload_n X dX11_stands_28 0 rfl rfl ?_
        refine gf11_3 X wf_RX11_33 dX11_stands_29 ?_
        refine gf0_2 X (gk_X0o gi_now) wf_RX11_141 dX11_stands_32 ?_
        refine gr_iload_n X dX11_stands_35 2 rfl rfl ?_
        refine gr_iload_n X dX11_stands_36 3 rfl rfl ?_
        obtain ⟨v10, M11, q12, hf⟩ := gz_bd2e hf
        refine gr_callI (asF := fun ad => [.ref (ad 11), .int a0, .ref (ad (7 + 2)), .int a1, .int a2]) [.int a0, .ref (gx_ad x (7 + 2)), .int a1, .int a2] X (c7_standing gi_table (gi_X0line gi_now) q12) rfl wm_RX11_277 rfl (X.kd (gk_X7o gi_table)).1 ((X.kd (gk_X7o gi_table)).2 _ _ _ _) rfl (by decide) (by decide) rfl (Nat.le_of_ble_eq_true rfl) hc dX11_stands_37 ?_
        refine gr_istore [(4, .int v10), (0, .ref (gx_ad x 0)), (1, .int a0), (2, .int a1), (3, .int a2)] X dX11_stands_40 rfl (by decide) rfl ?_
        refine gr_aload_n X dX11_stands_42 1 rfl rfl ?_
        refine gr_iconst 0 X dX11_stands_43 (by decide) ?_
        obtain ⟨M13, eM13, hf⟩ := gz_lte hf
        refine gp11_15 X wf_RX11_100 eM13 dX11_stands_44 ?_
        refine gr_aload_n X dX11_stands_47 1 rfl rfl ?_
        refine gr_aload_n X dX11_stands_48 1 rfl rfl ?_
        refine gf11_4 X wf_RX11_40 dX11_stands_49 ?_
        refine gr_iload_n X dX11_stands_52 2 rfl rfl ?_
        refine gr_aload_n X dX11_stands_53 1 rfl rfl ?_
        refine gf11_4 X wf_RX11_40 dX11_stands_54 ?_
        refine gr_iload_n X dX11_stands_57 2 rfl rfl ?_
        refine gr_iload X dX11_stands_58 0 rfl ?_
        obtain ⟨v14, M15, q16, hf⟩ := gz_bd2e hf
        refine gr_callI (asF := fun ad => [.ref (ad 11), .int a0, .int v10]) [.int a0, .int v10] X (c7_after gi_table q16) rfl wm_RX11_290 rfl (X.kd (gk_X7o gi_table)).1 ((X.kd (gk_X7o gi_table)).2 _ _ _ _) rfl (by decide) (by decide) rfl (Nat.le_of_ble_eq_true rfl) hc dX11_stands_60 ?_
        obtain ⟨v17, M18, q19, hf⟩ := gz_bd2e hf
        refine gr_callI (asF := fun ad => [.ref (ad 11), .int a0, .int v14]) [.int a0, .int v14] X (c7_signsTakenBy gi_table q19) rfl wm_RX11_293 rfl (X.kd (gk_X7o gi_table)).1 ((X.kd (gk_X7o gi_table)).2 _ _ _ _) rfl (by decide) (by decide) rfl (Nat.le_of_ble_eq_true rfl) hc dX11_stands_63 ?_
        refine gr_i2l X dX11_stands_66 ?_
        obtain ⟨M20, q21, hf⟩ := gz_bde hf
        refine gr_callV (asF := fun ad => [.ref (ad 0), .long (v17.toInt64)]) [.long (v17.toInt64)] X (c11_tell q21) rfl wm_RX11_196 rfl (X.kd gk_C0).1 ((X.kd gk_C0).2 _ _ _ _) rfl (by decide) (by decide) rfl (Nat.le_of_ble_eq_true rfl) hc dX11_stands_67 ?_
        refine gr_iload X dX11_stands_70 0 rfl ?_
        obtain ⟨v22, M23, q24, hf⟩ := gz_bd2e hf
        refine gr_callSI (asF := fun _ => [.int v10]) [.int v10] X (cJ_bitCount q24) rfl wm_RX11_296 rfl (by decide) (by decide) rfl (Nat.le_of_ble_eq_true rfl) hc dX11_stands_72 ?_
        exact gz_EIu hE hf rfl dX11_stands_75

def f11_states_25 : Nat → Int32 → Int32 → Int32 → gz_M → Option (Int32 × gz_M)
  | 0, _, _, _, _ => none
  | n + 1, x1, x2, x3, M0 => if (M0.1 123 3) ≤ x3 then (gz_lt (gz_w M0 0 15 0) fun M2 => gz_bd (f11_tell (x2.toInt64) M2) fun M3 => some (M3.1 123 3, M3)) else (gz_ck (gz_inb x3 1024) <| gz_bd2 (f7_winner 11 x1 (M0.1 124 x3.toNatClampNeg) M0) fun v6 M7 => if v6 = (-1) then (gz_lt (x2 + 0) fun v10 => gz_lt (x3 + 1) fun v11 => f11_states_25 n x1 v10 v11 M7) else (gz_lt (x2 + 1) fun v12 => gz_lt (x3 + 1) fun v13 => f11_states_25 n x1 v12 v13 M7))
theorem b11_states_25 {x : gz_X} {pf : Nat → Bool} {l : Launch} {r : Int32} {M' : gz_M} (X : gz_Ok x cX11_states RX11 4 5 gz_cfC pf l) (hc : gx_cells x ≤ (gx_R x).cells ∧ gx_slots x ≤ (gx_R x).slots) (hE : gz_EI x cX11_states .int r M') : ∀ (n : Nat) (x1 : Int32) (x2 : Int32) (x3 : Int32) (M0 : gz_M), f11_states_25 n x1 x2 x3 M0 = some (r, M') → gz_At x 25 [(0, .ref (gx_ad x 0)), (1, .int x1), (2, .int x2), (3, .int x3)] [] M0 := by
  intro n
  induction n with
  | zero =>
    intro x1 x2 x3 M0  hf
    rw [f11_states_25] at hf
    cases hf
  | succ n ih =>
    intro x1 x2 x3 M0  hf
    rw [f11_states_25] at hf
    refine gr_iload_n X dX11_states_25 3 rfl rfl ?_
    refine gr_aload_n X dX11_states_26 0 rfl rfl ?_
    refine gf11_10 X wf_RX11_74 dX11_states_27 ?_
    refine gf8_3 X wf_RX11_305 dX11_states_30 ?_
    refine gr_icmp_ge 71 X dX11_states_33 (by decide) (fun h1 => ?_) (fun h1 => ?_)
    · rw [if_pos h1] at hf
      refine gr_aload_n X dX11_states_71 0 rfl rfl ?_
      refine gr_iconst 0 X dX11_states_72 (by decide) ?_
      obtain ⟨M2, eM2, hf⟩ := gz_lte hf
      refine gp11_15 X wf_RX11_100 eM2 dX11_states_73 ?_
      refine gr_aload_n X dX11_states_76 0 rfl rfl ?_
      refine gr_iload_n X dX11_states_77 2 rfl rfl ?_
      refine gr_i2l X dX11_states_78 ?_
      obtain ⟨M3, q4, hf⟩ := gz_bde hf
      refine gr_callV (asF := fun ad => [.ref (ad 0), .long (x2.toInt64)]) [.long (x2.toInt64)] X (c11_tell q4) rfl wm_RX11_196 rfl (X.kd gk_C0).1 ((X.kd gk_C0).2 _ _ _ _) rfl (by decide) (by decide) rfl (Nat.le_of_ble_eq_true rfl) hc dX11_states_79 ?_
      refine gr_aload_n X dX11_states_82 0 rfl rfl ?_
      refine gf11_10 X wf_RX11_74 dX11_states_83 ?_
      refine gf8_3 X wf_RX11_305 dX11_states_86 ?_
      exact gz_EIu hE hf rfl dX11_states_89
    · rw [if_neg h1] at hf
      refine gr_iload_n X dX11_states_36 2 rfl rfl ?_
      refine gr_aload_n X dX11_states_37 0 rfl rfl ?_
      refine gf11_4 X wf_RX11_40 dX11_states_38 ?_
      refine gr_iload_n X dX11_states_41 1 rfl rfl ?_
      refine gr_aload_n X dX11_states_42 0 rfl rfl ?_
      refine gf11_10 X wf_RX11_74 dX11_states_43 ?_
      refine gf8_0 X wf_RX11_306 dX11_states_46 ?_
      refine gr_iload_n X dX11_states_49 3 rfl rfl ?_
      obtain ⟨h5, hf⟩ := gz_cke hf
      refine gr_iaload X gk_C124 (gz_inp h5) dX11_states_50 ?_
      obtain ⟨v6, M7, q8, hf⟩ := gz_bd2e hf
      refine gr_callI (asF := fun ad => [.ref (ad 11), .int x1, .int (M0.1 124 x3.toNatClampNeg)]) [.int x1, .int (M0.1 124 x3.toNatClampNeg)] X (c7_winner gi_table q8) rfl wm_RX11_309 rfl (X.kd (gk_X7o gi_table)).1 ((X.kd (gk_X7o gi_table)).2 _ _ _ _) rfl (by decide) (by decide) rfl (Nat.le_of_ble_eq_true rfl) hc dX11_states_51 ?_
      refine gr_iconst (-1) X dX11_states_54 (by decide) ?_
      refine gr_icmp_ne 62 X dX11_states_55 (by decide) (fun h9 => ?_) (fun h9 => ?_)
      · rw [if_pos h9] at hf
        refine gr_iconst 0 X dX11_states_58 (by decide) ?_
        refine gr_goto 63 X dX11_states_59 (by decide) ?_
        refine gr_iadd X dX11_states_63 ?_
        obtain ⟨v10, ev10, hf⟩ := gz_lte hf
        refine gr_istore_n [(2, .int v10), (0, .ref (gx_ad x 0)), (1, .int x1), (3, .int x3)] X dX11_states_64 ev10 rfl (by decide) rfl ?_
        obtain ⟨v11, ev11, hf⟩ := gz_lte hf
        refine gr_iinc 1 [(3, .int v11), (2, .int v10), (0, .ref (gx_ad x 0)), (1, .int x1)] X dX11_states_65 3 rfl (by decide) ev11 (by decide) rfl ?_
        refine gr_goto 25 X dX11_states_68 (by decide) ?_
        refine gr_sub (lv' := [(0, .ref (gx_ad x 0)), (1, .int x1), (2, .int v10), (3, .int v11)]) [2, 3, 1, 0] rfl ?_
        exact ih _ _ _ _ hf
      · rw [if_neg h9] at hf
        refine gr_iconst 1 X dX11_states_62 (by decide) ?_
        refine gr_iadd X dX11_states_63 ?_
        obtain ⟨v12, ev12, hf⟩ := gz_lte hf
        refine gr_istore_n [(2, .int v12), (0, .ref (gx_ad x 0)), (1, .int x1), (3, .int x3)] X dX11_states_64 ev12 rfl (by decide) rfl ?_
        obtain ⟨v13, ev13, hf⟩ := gz_lte hf
        refine gr_iinc 1 [(3, .int v13), (2, .int v12), (0, .ref (gx_ad x 0)), (1, .int x1)] X dX11_states_65 3 rfl (by decide) ev13 (by decide) rfl ?_
        refine gr_goto 25 X dX11_states_68 (by decide) ?_
        refine gr_sub (lv' := [(0, .ref (gx_ad x 0)), (1, .int x1), (2, .int v12), (3, .int v13)]) [2, 3, 1, 0] rfl ?_
        exact ih _ _ _ _ hf

def f11_states (a0 : Int32) (M0 : gz_M) : Option (Int32 × gz_M) := gz_bd2 (f11_isMode a0 M0) fun v1 M2 => if v1 = 0 then (some ((-1), M2)) else (gz_bd (f8_explore 11 a0 M2) fun M5 => f11_states_25 gz_FU a0 0 0 M5)
set_option maxRecDepth 100000 in
theorem c11_states {pf : Nat → Bool} {l : Launch} {r : Int32} {M0 M' : gz_M} {a0 : Int32} (hf : f11_states a0 M0 = some (r, M')) : gz_CI l gz_cfC yX11_states cX11_states 4 5 .int (fun ad => [.ref (ad 0), .int a0]) pf M0 r M' := by
  refine gz_ofI (by decide +kernel) (fun _ => Nat.le_of_ble_eq_true rfl) (fun x X hc hE => ?_)
  show gz_At x 0 [(0, .ref (gx_ad x 0)), (1, .int a0)] [] M0
  unfold f11_states at hf
  refine gr_iload_n X dX11_states_0 1 rfl rfl ?_
  obtain ⟨v1, M2, q3, hf⟩ := gz_bd2e hf
  refine gr_callSI (asF := fun _ => [.int a0]) [.int a0] X (c11_isMode q3) rfl wm_RX11_238 rfl (by decide) (by decide) rfl (Nat.le_of_ble_eq_true rfl) hc dX11_states_1 ?_
  refine gr_if_ne 9 X dX11_states_4 (by decide) (fun h4 => ?_) (fun h4 => ?_)
  · rw [if_pos h4] at hf
    refine gr_iconst (-1) X dX11_states_7 (by decide) ?_
    exact gz_EIu hE hf rfl dX11_states_8
  · rw [if_neg h4] at hf
    refine gr_aload_n X dX11_states_9 0 rfl rfl ?_
    refine gf11_10 X wf_RX11_74 dX11_states_10 ?_
    refine gr_aload_n X dX11_states_13 0 rfl rfl ?_
    refine gf11_4 X wf_RX11_40 dX11_states_14 ?_
    refine gr_iload_n X dX11_states_17 1 rfl rfl ?_
    obtain ⟨M5, q6, hf⟩ := gz_bde hf
    refine gr_callV (asF := fun ad => [.ref (ad 123), .ref (ad 11), .int a0]) [.ref (gx_ad x 11), .int a0] X (c8_explore gi_table q6) rfl wm_RX11_301 rfl (X.kd gk_C123).1 ((X.kd gk_C123).2 _ _ _ _) rfl (by decide) (by decide) rfl (Nat.le_of_ble_eq_true rfl) hc dX11_states_18 ?_
    refine gr_iconst 0 X dX11_states_21 (by decide) ?_
    refine gr_istore_n [(2, .int 0), (0, .ref (gx_ad x 0)), (1, .int a0)] X dX11_states_22 rfl rfl (by decide) rfl ?_
    refine gr_iconst 0 X dX11_states_23 (by decide) ?_
    refine gr_istore_n [(3, .int 0), (2, .int 0), (0, .ref (gx_ad x 0)), (1, .int a0)] X dX11_states_24 rfl rfl (by decide) rfl ?_
    refine gr_sub (lv' := [(0, .ref (gx_ad x 0)), (1, .int a0), (2, .int 0), (3, .int 0)]) [2, 3, 1, 0] rfl ?_
    exact b11_states_25 X hc hE _ _ _ _ _ hf

def f11_tellRowTo_18 : Nat → Int32 → Int32 → gz_M → Option (Int32 × gz_M)
  | 0, _, _, _ => none
  | n + 1, x2, x3, M0 => if x3 < 0 then (some (x2, M0)) else (gz_ck (gz_inb x3 1024) <| gz_bd (f11_tell ((M0.1 126 x3.toNatClampNeg).toInt64) M0) fun M3 => gz_lt (x3 + (-1)) fun v5 => f11_tellRowTo_18 n x2 v5 M3)
theorem b11_tellRowTo_18 {x : gz_X} {pf : Nat → Bool} {l : Launch} {r : Int32} {M' : gz_M} (X : gz_Ok x cX11_tellRowTo RX11 4 2 gz_cfC pf l) (hc : gx_cells x ≤ (gx_R x).cells ∧ gx_slots x ≤ (gx_R x).slots) (hE : gz_EI x cX11_tellRowTo .int r M') : ∀ (n : Nat) (x2 : Int32) (x3 : Int32) (M0 : gz_M), f11_tellRowTo_18 n x2 x3 M0 = some (r, M') → gz_At x 18 [(0, .ref (gx_ad x 0)), (2, .int x2), (3, .int x3)] [] M0 := by
  intro n
  induction n with
  | zero =>
    intro x2 x3 M0  hf
    rw [f11_tellRowTo_18] at hf
    cases hf
  | succ n ih =>
    intro x2 x3 M0  hf
    rw [f11_tellRowTo_18] at hf
    refine gr_iload_n X dX11_tellRowTo_18 2 rfl rfl ?_
    refine gr_if_lt 42 X dX11_tellRowTo_19 (by decide) (fun h1 => ?_) (fun h1 => ?_)
    · rw [if_pos h1] at hf
      refine gr_iload_n X dX11_tellRowTo_42 1 rfl rfl ?_
      exact gz_EIu hE hf rfl dX11_tellRowTo_43
    · rw [if_neg h1] at hf
      refine gr_aload_n X dX11_tellRowTo_22 0 rfl rfl ?_
      refine gr_aload_n X dX11_tellRowTo_23 0 rfl rfl ?_
      refine gf11_10 X wf_RX11_74 dX11_tellRowTo_24 ?_
      refine gf8_2 X wf_RX11_384 dX11_tellRowTo_27 ?_
      refine gr_iload_n X dX11_tellRowTo_30 2 rfl rfl ?_
      obtain ⟨h2, hf⟩ := gz_cke hf
      refine gr_iaload X gk_C126 (gz_inp h2) dX11_tellRowTo_31 ?_
      refine gr_i2l X dX11_tellRowTo_32 ?_
      obtain ⟨M3, q4, hf⟩ := gz_bde hf
      refine gr_callV (asF := fun ad => [.ref (ad 0), .long ((M0.1 126 x3.toNatClampNeg).toInt64)]) [.long ((M0.1 126 x3.toNatClampNeg).toInt64)] X (c11_tell q4) rfl wm_RX11_196 rfl (X.kd gk_C0).1 ((X.kd gk_C0).2 _ _ _ _) rfl (by decide) (by decide) rfl (Nat.le_of_ble_eq_true rfl) hc dX11_tellRowTo_33 ?_
      obtain ⟨v5, ev5, hf⟩ := gz_lte hf
      refine gr_iinc (-1) [(3, .int v5), (0, .ref (gx_ad x 0)), (2, .int x2)] X dX11_tellRowTo_36 2 rfl (by decide) ev5 (by decide) rfl ?_
      refine gr_goto 18 X dX11_tellRowTo_39 (by decide) ?_
      refine gr_sub (lv' := [(0, .ref (gx_ad x 0)), (2, .int x2), (3, .int v5)]) [1, 2, 0] rfl ?_
      exact ih _ _ _ hf

def f11_tellRowTo (a0 : Int32) (M0 : gz_M) : Option (Int32 × gz_M) := gz_bd2 (f8_trace a0 M0) fun v1 M2 => gz_lt (gz_w M2 0 15 0) fun M4 => gz_lt (v1 - 1) fun v5 => f11_tellRowTo_18 gz_FU v1 v5 M4
set_option maxRecDepth 100000 in
theorem c11_tellRowTo {pf : Nat → Bool} {l : Launch} {r : Int32} {M0 M' : gz_M} {a0 : Int32} (hf : f11_tellRowTo a0 M0 = some (r, M')) : gz_CI l gz_cfC yX11_tellRowTo cX11_tellRowTo 4 2 .int (fun ad => [.ref (ad 0), .int a0]) pf M0 r M' := by
  refine gz_ofI (by decide +kernel) (fun _ => Nat.le_of_ble_eq_true rfl) (fun x X hc hE => ?_)
  show gz_At x 0 [(0, .ref (gx_ad x 0)), (1, .int a0)] [] M0
  unfold f11_tellRowTo at hf
  refine gr_aload_n X dX11_tellRowTo_0 0 rfl rfl ?_
  refine gf11_10 X wf_RX11_74 dX11_tellRowTo_1 ?_
  refine gr_iload_n X dX11_tellRowTo_4 1 rfl rfl ?_
  obtain ⟨v1, M2, q3, hf⟩ := gz_bd2e hf
  refine gr_callI (asF := fun ad => [.ref (ad 123), .int a0]) [.int a0] X (c8_trace q3) rfl wm_RX11_381 rfl (X.kd gk_C123).1 ((X.kd gk_C123).2 _ _ _ _) rfl (by decide) (by decide) rfl (Nat.le_of_ble_eq_true rfl) hc dX11_tellRowTo_5 ?_
  refine gr_istore_n [(2, .int v1), (0, .ref (gx_ad x 0)), (1, .int a0)] X dX11_tellRowTo_8 rfl rfl (by decide) rfl ?_
  refine gr_aload_n X dX11_tellRowTo_9 1 rfl rfl ?_
  refine gr_iconst 0 X dX11_tellRowTo_10 (by decide) ?_
  obtain ⟨M4, eM4, hf⟩ := gz_lte hf
  refine gp11_15 X wf_RX11_100 eM4 dX11_tellRowTo_11 ?_
  refine gr_iload_n X dX11_tellRowTo_14 0 rfl rfl ?_
  refine gr_iconst 1 X dX11_tellRowTo_15 (by decide) ?_
  refine gr_isub X dX11_tellRowTo_16 ?_
  obtain ⟨v5, ev5, hf⟩ := gz_lte hf
  refine gr_istore_n [(3, .int v5), (2, .int v1), (0, .ref (gx_ad x 0)), (1, .int a0)] X dX11_tellRowTo_17 ev5 rfl (by decide) rfl ?_
  refine gr_sub (lv' := [(0, .ref (gx_ad x 0)), (2, .int v1), (3, .int v5)]) [2, 1, 0] rfl ?_
  exact b11_tellRowTo_18 X hc hE _ _ _ _ hf

def f11_shortest_41 : Nat → Int32 → Int32 → Int32 → gz_M → Option (Int32 × gz_M)
  | 0, _, _, _, _ => none
  | n + 1, x1, x2, x3, M0 => if (M0.1 123 3) ≤ x3 then (some ((-2), M0)) else (gz_ck (gz_inb x3 1024) <| gz_bd2 (f7_winner 11 x2 (M0.1 124 x3.toNatClampNeg) M0) fun v3 M4 => if v3 = x1 then (gz_ck (gz_inb x3 1024) <| gz_bd2 (f11_tellRowTo (M4.1 124 x3.toNatClampNeg) M4) fun v8 M9 => some (v8, M9)) else (gz_lt (x3 + 1) fun v11 => f11_shortest_41 n x1 x2 v11 M4))
theorem b11_shortest_41 {x : gz_X} {pf : Nat → Bool} {l : Launch} {r : Int32} {M' : gz_M} (X : gz_Ok x cX11_shortest RX11 4 5 gz_cfC pf l) (hc : gx_cells x ≤ (gx_R x).cells ∧ gx_slots x ≤ (gx_R x).slots) (hE : gz_EI x cX11_shortest .int r M') : ∀ (n : Nat) (x1 : Int32) (x2 : Int32) (x3 : Int32) (M0 : gz_M), f11_shortest_41 n x1 x2 x3 M0 = some (r, M') → gz_At x 41 [(0, .ref (gx_ad x 0)), (1, .int x1), (2, .int x2), (3, .int x3)] [] M0 := by
  intro n
  induction n with
  | zero =>
    intro x1 x2 x3 M0  hf
    rw [f11_shortest_41] at hf
    cases hf
  | succ n ih =>
    intro x1 x2 x3 M0  hf
    rw [f11_shortest_41] at hf
    refine gr_iload_n X dX11_shortest_41 3 rfl rfl ?_
    refine gr_aload_n X dX11_shortest_42 0 rfl rfl ?_
    refine gf11_10 X wf_RX11_74 dX11_shortest_43 ?_
    refine gf8_3 X wf_RX11_305 dX11_shortest_46 ?_
    refine gr_icmp_ge 93 X dX11_shortest_49 (by decide) (fun h1 => ?_) (fun h1 => ?_)
    · rw [if_pos h1] at hf
      refine gr_bipush (-2) X dX11_shortest_93 (by decide) ?_
      exact gz_EIu hE hf rfl dX11_shortest_95
    · rw [if_neg h1] at hf
      refine gr_aload_n X dX11_shortest_52 0 rfl rfl ?_
      refine gf11_4 X wf_RX11_40 dX11_shortest_53 ?_
      refine gr_iload_n X dX11_shortest_56 2 rfl rfl ?_
      refine gr_aload_n X dX11_shortest_57 0 rfl rfl ?_
      refine gf11_10 X wf_RX11_74 dX11_shortest_58 ?_
      refine gf8_0 X wf_RX11_306 dX11_shortest_61 ?_
      refine gr_iload_n X dX11_shortest_64 3 rfl rfl ?_
      obtain ⟨h2, hf⟩ := gz_cke hf
      refine gr_iaload X gk_C124 (gz_inp h2) dX11_shortest_65 ?_
      obtain ⟨v3, M4, q5, hf⟩ := gz_bd2e hf
      refine gr_callI (asF := fun ad => [.ref (ad 11), .int x2, .int (M0.1 124 x3.toNatClampNeg)]) [.int x2, .int (M0.1 124 x3.toNatClampNeg)] X (c7_winner gi_table q5) rfl wm_RX11_309 rfl (X.kd (gk_X7o gi_table)).1 ((X.kd (gk_X7o gi_table)).2 _ _ _ _) rfl (by decide) (by decide) rfl (Nat.le_of_ble_eq_true rfl) hc dX11_shortest_66 ?_
      refine gr_iload_n X dX11_shortest_69 1 rfl rfl ?_
      refine gr_icmp_ne 87 X dX11_shortest_70 (by decide) (fun h6 => ?_) (fun h6 => ?_)
      · rw [if_pos h6] at hf
        refine gr_aload_n X dX11_shortest_73 0 rfl rfl ?_
        refine gr_aload_n X dX11_shortest_74 0 rfl rfl ?_
        refine gf11_10 X wf_RX11_74 dX11_shortest_75 ?_
        refine gf8_0 X wf_RX11_306 dX11_shortest_78 ?_
        refine gr_iload_n X dX11_shortest_81 3 rfl rfl ?_
        obtain ⟨h7, hf⟩ := gz_cke hf
        refine gr_iaload X gk_C124 (gz_inp h7) dX11_shortest_82 ?_
        obtain ⟨v8, M9, q10, hf⟩ := gz_bd2e hf
        refine gr_callI (asF := fun ad => [.ref (ad 0), .int (M4.1 124 x3.toNatClampNeg)]) [.int (M4.1 124 x3.toNatClampNeg)] X (c11_tellRowTo q10) rfl wm_RX11_312 rfl (X.kd gk_C0).1 ((X.kd gk_C0).2 _ _ _ _) rfl (by decide) (by decide) rfl (Nat.le_of_ble_eq_true rfl) hc dX11_shortest_83 ?_
        exact gz_EIu hE hf rfl dX11_shortest_86
      · rw [if_neg h6] at hf
        obtain ⟨v11, ev11, hf⟩ := gz_lte hf
        refine gr_iinc 1 [(3, .int v11), (0, .ref (gx_ad x 0)), (1, .int x1), (2, .int x2)] X dX11_shortest_87 3 rfl (by decide) ev11 (by decide) rfl ?_
        refine gr_goto 41 X dX11_shortest_90 (by decide) ?_
        refine gr_sub (lv' := [(0, .ref (gx_ad x 0)), (1, .int x1), (2, .int x2), (3, .int v11)]) [1, 2, 3, 0] rfl ?_
        exact ih _ _ _ _ hf

def f11_shortest (a0 : Int32) (M0 : gz_M) : Option (Int32 × gz_M) := if a0 < 0 then (some ((-1), M0)) else (if a0 < (M0.1 11 0) then (gz_ck (gz_inb a0 8) <| gz_lt (M0.1 (11 + 1) a0.toNatClampNeg) fun v4 => gz_bd (f8_explore 11 v4 M0) fun M5 => f11_shortest_41 gz_FU a0 v4 0 M5) else (some ((-1), M0)))
set_option maxRecDepth 100000 in
theorem c11_shortest {pf : Nat → Bool} {l : Launch} {r : Int32} {M0 M' : gz_M} {a0 : Int32} (hf : f11_shortest a0 M0 = some (r, M')) : gz_CI l gz_cfC yX11_shortest cX11_shortest 4 5 .int (fun ad => [.ref (ad 0), .int a0]) pf M0 r M' := by
  refine gz_ofI (by decide +kernel) (fun _ => Nat.le_of_ble_eq_true rfl) (fun x X hc hE => ?_)
  show gz_At x 0 [(0, .ref (gx_ad x 0)), (1, .int a0)] [] M0
  unfold f11_shortest at hf
  refine gr_iload_n X dX11_shortest_0 1 rfl rfl ?_
  refine gr_if_lt 15 X dX11_shortest_1 (by decide) (fun h1 => ?_) (fun h1 => ?_)
  · rw [if_pos h1] at hf
    refine gr_iconst (-1) X dX11_shortest_15 (by decide) ?_
    exact gz_EIu hE hf rfl dX11_shortest_16
  · rw [if_neg h1] at hf
    refine gr_iload_n X dX11_shortest_4 1 rfl rfl ?_
    refine gr_aload_n X dX11_shortest_5 0 rfl rfl ?_
    refine gf11_4 X wf_RX11_40 dX11_shortest_6 ?_
    refine gf7_0 X (gk_X7o gi_table) wf_RX11_135 dX11_shortest_9 ?_
    refine gr_icmp_lt 17 X dX11_shortest_12 (by decide) (fun h2 => ?_) (fun h2 => ?_)
    · rw [if_pos h2] at hf
      refine gr_aload_n X dX11_shortest_17 0 rfl rfl ?_
      refine gf11_4 X wf_RX11_40 dX11_shortest_18 ?_
      refine gf7_1 X (gk_X7o gi_table) wf_RX11_154 dX11_shortest_21 ?_
      refine gr_iload_n X dX11_shortest_24 1 rfl rfl ?_
      obtain ⟨h3, hf⟩ := gz_cke hf
      refine gr_iaload X (gk_X71 gi_table) (gz_inp h3) dX11_shortest_25 ?_
      obtain ⟨v4, ev4, hf⟩ := gz_lte hf
      refine gr_istore_n [(2, .int v4), (0, .ref (gx_ad x 0)), (1, .int a0)] X dX11_shortest_26 ev4 rfl (by decide) rfl ?_
      refine gr_aload_n X dX11_shortest_27 1 rfl rfl ?_
      refine gf11_10 X wf_RX11_74 dX11_shortest_28 ?_
      refine gr_aload_n X dX11_shortest_31 1 rfl rfl ?_
      refine gf11_4 X wf_RX11_40 dX11_shortest_32 ?_
      refine gr_iload_n X dX11_shortest_35 0 rfl rfl ?_
      obtain ⟨M5, q6, hf⟩ := gz_bde hf
      refine gr_callV (asF := fun ad => [.ref (ad 123), .ref (ad 11), .int v4]) [.ref (gx_ad x 11), .int v4] X (c8_explore gi_table q6) rfl wm_RX11_301 rfl (X.kd gk_C123).1 ((X.kd gk_C123).2 _ _ _ _) rfl (by decide) (by decide) rfl (Nat.le_of_ble_eq_true rfl) hc dX11_shortest_36 ?_
      refine gr_iconst 0 X dX11_shortest_39 (by decide) ?_
      refine gr_istore_n [(3, .int 0), (2, .int v4), (0, .ref (gx_ad x 0)), (1, .int a0)] X dX11_shortest_40 rfl rfl (by decide) rfl ?_
      refine gr_sub (lv' := [(0, .ref (gx_ad x 0)), (1, .int a0), (2, .int v4), (3, .int 0)]) [2, 3, 1, 0] rfl ?_
      exact b11_shortest_41 X hc hE _ _ _ _ _ hf
    · rw [if_neg h2] at hf
      refine gr_iconst (-1) X dX11_shortest_15 (by decide) ?_
      exact gz_EIu hE hf rfl dX11_shortest_16

def f11_idle_23 (c4 : Int32 → Int32 → gz_M → Option (Int32 × gz_M)) : Nat → Int32 → Int32 → Int32 → gz_M → Option (Int32 × gz_M)
  | 0, _, _, _, _ => none
  | n + 1, x1, x2, x3, M0 => if (M0.1 123 3) ≤ x3 then (gz_lt (x2 + 1) fun v2 => c4 x1 v2 M0) else (gz_ck (gz_inb x3 1024) <| gz_bd2 (f7_winner 11 x2 (M0.1 124 x3.toNatClampNeg) M0) fun v4 M5 => if v4 = (-1) then (gz_lt (x1 ||| 0) fun v8 => gz_lt (x3 + 1) fun v9 => f11_idle_23 c4 n v8 x2 v9 M5) else (gz_lt (x1 ||| (gz_shl 1 v4)) fun v10 => gz_lt (x3 + 1) fun v11 => f11_idle_23 c4 n v10 x2 v11 M5))
theorem b11_idle_23 {x : gz_X} {pf : Nat → Bool} {l : Launch} {r : Int32} {M' : gz_M} (X : gz_Ok x cX11_idle RX11 5 5 gz_cfC pf l) (hc : gx_cells x ≤ (gx_R x).cells ∧ gx_slots x ≤ (gx_R x).slots) (hE : gz_EI x cX11_idle .int r M') {c4 : Int32 → Int32 → gz_M → Option (Int32 × gz_M)} (hc4 : ∀ (x1 : Int32) (x2 : Int32) (M0 : gz_M), c4 x1 x2 M0 = some (r, M') → gz_At x 4 [(0, .ref (gx_ad x 0)), (1, .int x1), (2, .int x2)] [] M0) : ∀ (n : Nat) (x1 : Int32) (x2 : Int32) (x3 : Int32) (M0 : gz_M), f11_idle_23 c4 n x1 x2 x3 M0 = some (r, M') → gz_At x 23 [(0, .ref (gx_ad x 0)), (1, .int x1), (2, .int x2), (3, .int x3)] [] M0 := by
  intro n
  induction n with
  | zero =>
    intro x1 x2 x3 M0  hf
    rw [f11_idle_23] at hf
    cases hf
  | succ n ih =>
    intro x1 x2 x3 M0  hf
    rw [f11_idle_23] at hf
    refine gr_iload_n X dX11_idle_23 3 rfl rfl ?_
    refine gr_aload_n X dX11_idle_24 0 rfl rfl ?_
    refine gf11_10 X wf_RX11_74 dX11_idle_25 ?_
    refine gf8_3 X wf_RX11_305 dX11_idle_28 ?_
    refine gr_icmp_ge 76 X dX11_idle_31 (by decide) (fun h1 => ?_) (fun h1 => ?_)
    · rw [if_pos h1] at hf
      obtain ⟨v2, ev2, hf⟩ := gz_lte hf
      refine gr_iinc 1 [(2, .int v2), (0, .ref (gx_ad x 0)), (1, .int x1), (3, .int x3)] X dX11_idle_76 2 rfl (by decide) ev2 (by decide) rfl ?_
      refine gr_goto 4 X dX11_idle_79 (by decide) ?_
      refine gr_sub (lv' := [(0, .ref (gx_ad x 0)), (1, .int x1), (2, .int v2)]) [1, 2, 0] rfl ?_
      exact hc4 _ _ _ hf
    · rw [if_neg h1] at hf
      refine gr_aload_n X dX11_idle_34 0 rfl rfl ?_
      refine gf11_4 X wf_RX11_40 dX11_idle_35 ?_
      refine gr_iload_n X dX11_idle_38 2 rfl rfl ?_
      refine gr_aload_n X dX11_idle_39 0 rfl rfl ?_
      refine gf11_10 X wf_RX11_74 dX11_idle_40 ?_
      refine gf8_0 X wf_RX11_306 dX11_idle_43 ?_
      refine gr_iload_n X dX11_idle_46 3 rfl rfl ?_
      obtain ⟨h3, hf⟩ := gz_cke hf
      refine gr_iaload X gk_C124 (gz_inp h3) dX11_idle_47 ?_
      obtain ⟨v4, M5, q6, hf⟩ := gz_bd2e hf
      refine gr_callI (asF := fun ad => [.ref (ad 11), .int x2, .int (M0.1 124 x3.toNatClampNeg)]) [.int x2, .int (M0.1 124 x3.toNatClampNeg)] X (c7_winner gi_table q6) rfl wm_RX11_309 rfl (X.kd (gk_X7o gi_table)).1 ((X.kd (gk_X7o gi_table)).2 _ _ _ _) rfl (by decide) (by decide) rfl (Nat.le_of_ble_eq_true rfl) hc dX11_idle_48 ?_
      refine gr_istore [(4, .int v4), (0, .ref (gx_ad x 0)), (1, .int x1), (2, .int x2), (3, .int x3)] X dX11_idle_51 rfl (by decide) rfl ?_
      refine gr_iload_n X dX11_idle_53 2 rfl rfl ?_
      refine gr_iload X dX11_idle_54 0 rfl ?_
      refine gr_iconst (-1) X dX11_idle_56 (by decide) ?_
      refine gr_icmp_ne 64 X dX11_idle_57 (by decide) (fun h7 => ?_) (fun h7 => ?_)
      · rw [if_pos h7] at hf
        refine gr_iconst 0 X dX11_idle_60 (by decide) ?_
        refine gr_goto 68 X dX11_idle_61 (by decide) ?_
        refine gr_ior X dX11_idle_68 ?_
        obtain ⟨v8, ev8, hf⟩ := gz_lte hf
        refine gr_istore_n [(1, .int v8), (4, .int v4), (0, .ref (gx_ad x 0)), (2, .int x2), (3, .int x3)] X dX11_idle_69 ev8 rfl (by decide) rfl ?_
        obtain ⟨v9, ev9, hf⟩ := gz_lte hf
        refine gr_iinc 1 [(3, .int v9), (1, .int v8), (4, .int v4), (0, .ref (gx_ad x 0)), (2, .int x2)] X dX11_idle_70 4 rfl (by decide) ev9 (by decide) rfl ?_
        refine gr_goto 23 X dX11_idle_73 (by decide) ?_
        refine gr_sub (lv' := [(0, .ref (gx_ad x 0)), (1, .int v8), (2, .int x2), (3, .int v9)]) [3, 1, 4, 0] rfl ?_
        exact ih _ _ _ _ hf
      · rw [if_neg h7] at hf
        refine gr_iconst 1 X dX11_idle_64 (by decide) ?_
        refine gr_iload X dX11_idle_65 0 rfl ?_
        refine gr_ishl X dX11_idle_67 ?_
        refine gr_ior X dX11_idle_68 ?_
        obtain ⟨v10, ev10, hf⟩ := gz_lte hf
        refine gr_istore_n [(1, .int v10), (4, .int v4), (0, .ref (gx_ad x 0)), (2, .int x2), (3, .int x3)] X dX11_idle_69 ev10 rfl (by decide) rfl ?_
        obtain ⟨v11, ev11, hf⟩ := gz_lte hf
        refine gr_iinc 1 [(3, .int v11), (1, .int v10), (4, .int v4), (0, .ref (gx_ad x 0)), (2, .int x2)] X dX11_idle_70 4 rfl (by decide) ev11 (by decide) rfl ?_
        refine gr_goto 23 X dX11_idle_73 (by decide) ?_
        refine gr_sub (lv' := [(0, .ref (gx_ad x 0)), (1, .int v10), (2, .int x2), (3, .int v11)]) [3, 1, 4, 0] rfl ?_
        exact ih _ _ _ _ hf

def f11_idle_4 : Nat → Int32 → Int32 → gz_M → Option (Int32 × gz_M)
  | 0, _, _, _ => none
  | n + 1, x1, x2, M0 => if 4 ≤ x2 then (gz_lt (((gz_shl 1 (M0.1 11 0)) - 1) &&& (x1 ^^^ (-1))) fun v2 => gz_lt (gz_w M0 0 15 0) fun M3 => gz_bd2 (fJ_bitCount v2 M3) fun v4 M5 => gz_bd (f11_tell (v4.toInt64) M5) fun M7 => some (v2, M7)) else (gz_bd (f8_explore 11 x2 M0) fun M9 => f11_idle_23 (f11_idle_4 n) gz_FU x1 x2 0 M9)
theorem b11_idle_4 {x : gz_X} {pf : Nat → Bool} {l : Launch} {r : Int32} {M' : gz_M} (X : gz_Ok x cX11_idle RX11 5 5 gz_cfC pf l) (hc : gx_cells x ≤ (gx_R x).cells ∧ gx_slots x ≤ (gx_R x).slots) (hE : gz_EI x cX11_idle .int r M') : ∀ (n : Nat) (x1 : Int32) (x2 : Int32) (M0 : gz_M), f11_idle_4 n x1 x2 M0 = some (r, M') → gz_At x 4 [(0, .ref (gx_ad x 0)), (1, .int x1), (2, .int x2)] [] M0 := by
  intro n
  induction n with
  | zero =>
    intro x1 x2 M0  hf
    rw [f11_idle_4] at hf
    cases hf
  | succ n ih =>
    intro x1 x2 M0  hf
    rw [f11_idle_4] at hf
    refine gr_iload_n X dX11_idle_4 2 rfl rfl ?_
    refine gr_iconst 4 X dX11_idle_5 (by decide) ?_
    refine gr_icmp_ge 82 X dX11_idle_6 (by decide) (fun h1 => ?_) (fun h1 => ?_)
    · rw [if_pos h1] at hf
      refine gr_iconst 1 X dX11_idle_82 (by decide) ?_
      refine gr_aload_n X dX11_idle_83 0 rfl rfl ?_
      refine gf11_4 X wf_RX11_40 dX11_idle_84 ?_
      refine gf7_0 X (gk_X7o gi_table) wf_RX11_135 dX11_idle_87 ?_
      refine gr_ishl X dX11_idle_90 ?_
      refine gr_iconst 1 X dX11_idle_91 (by decide) ?_
      refine gr_isub X dX11_idle_92 ?_
      refine gr_iload_n X dX11_idle_93 1 rfl rfl ?_
      refine gr_iconst (-1) X dX11_idle_94 (by decide) ?_
      refine gr_ixor X dX11_idle_95 ?_
      refine gr_iand X dX11_idle_96 ?_
      obtain ⟨v2, ev2, hf⟩ := gz_lte hf
      refine gr_istore_n [(2, .int v2), (0, .ref (gx_ad x 0)), (1, .int x1)] X dX11_idle_97 ev2 rfl (by decide) rfl ?_
      refine gr_aload_n X dX11_idle_98 1 rfl rfl ?_
      refine gr_iconst 0 X dX11_idle_99 (by decide) ?_
      obtain ⟨M3, eM3, hf⟩ := gz_lte hf
      refine gp11_15 X wf_RX11_100 eM3 dX11_idle_100 ?_
      refine gr_aload_n X dX11_idle_103 1 rfl rfl ?_
      refine gr_iload_n X dX11_idle_104 0 rfl rfl ?_
      obtain ⟨v4, M5, q6, hf⟩ := gz_bd2e hf
      refine gr_callSI (asF := fun _ => [.int v2]) [.int v2] X (cJ_bitCount q6) rfl wm_RX11_296 rfl (by decide) (by decide) rfl (Nat.le_of_ble_eq_true rfl) hc dX11_idle_105 ?_
      refine gr_i2l X dX11_idle_108 ?_
      obtain ⟨M7, q8, hf⟩ := gz_bde hf
      refine gr_callV (asF := fun ad => [.ref (ad 0), .long (v4.toInt64)]) [.long (v4.toInt64)] X (c11_tell q8) rfl wm_RX11_196 rfl (X.kd gk_C0).1 ((X.kd gk_C0).2 _ _ _ _) rfl (by decide) (by decide) rfl (Nat.le_of_ble_eq_true rfl) hc dX11_idle_109 ?_
      refine gr_iload_n X dX11_idle_112 0 rfl rfl ?_
      exact gz_EIu hE hf rfl dX11_idle_113
    · rw [if_neg h1] at hf
      refine gr_aload_n X dX11_idle_9 0 rfl rfl ?_
      refine gf11_10 X wf_RX11_74 dX11_idle_10 ?_
      refine gr_aload_n X dX11_idle_13 0 rfl rfl ?_
      refine gf11_4 X wf_RX11_40 dX11_idle_14 ?_
      refine gr_iload_n X dX11_idle_17 2 rfl rfl ?_
      obtain ⟨M9, q10, hf⟩ := gz_bde hf
      refine gr_callV (asF := fun ad => [.ref (ad 123), .ref (ad 11), .int x2]) [.ref (gx_ad x 11), .int x2] X (c8_explore gi_table q10) rfl wm_RX11_301 rfl (X.kd gk_C123).1 ((X.kd gk_C123).2 _ _ _ _) rfl (by decide) (by decide) rfl (Nat.le_of_ble_eq_true rfl) hc dX11_idle_18 ?_
      refine gr_iconst 0 X dX11_idle_21 (by decide) ?_
      refine gr_istore_n [(3, .int 0), (0, .ref (gx_ad x 0)), (1, .int x1), (2, .int x2)] X dX11_idle_22 rfl rfl (by decide) rfl ?_
      refine gr_sub (lv' := [(0, .ref (gx_ad x 0)), (1, .int x1), (2, .int x2), (3, .int 0)]) [1, 2, 3, 0] rfl ?_
      exact b11_idle_23 X hc hE ih _ _ _ _ _ hf

def f11_idle (M0 : gz_M) : Option (Int32 × gz_M) := f11_idle_4 gz_FU 0 0 M0
set_option maxRecDepth 100000 in
theorem c11_idle {pf : Nat → Bool} {l : Launch} {r : Int32} {M0 M' : gz_M} (hf : f11_idle M0 = some (r, M')) : gz_CI l gz_cfC yX11_idle cX11_idle 5 5 .int (fun ad => [.ref (ad 0)]) pf M0 r M' := by
  refine gz_ofI (by decide +kernel) (fun _ => Nat.le_of_ble_eq_true rfl) (fun x X hc hE => ?_)
  show gz_At x 0 [(0, .ref (gx_ad x 0))] [] M0
  unfold f11_idle at hf
  refine gr_iconst 0 X dX11_idle_0 (by decide) ?_
  refine gr_istore_n [(1, .int 0), (0, .ref (gx_ad x 0))] X dX11_idle_1 rfl rfl (by decide) rfl ?_
  refine gr_iconst 0 X dX11_idle_2 (by decide) ?_
  refine gr_istore_n [(2, .int 0), (1, .int 0), (0, .ref (gx_ad x 0))] X dX11_idle_3 rfl rfl (by decide) rfl ?_
  refine gr_sub (lv' := [(0, .ref (gx_ad x 0)), (1, .int 0), (2, .int 0)]) [2, 1, 0] rfl ?_
  exact b11_idle_4 X hc hE _ _ _ _ hf

def f11_overlap_83 : Nat → Int32 → Int32 → Int32 → gz_M → Option (Int32 × gz_M)
  | 0, _, _, _, _ => none
  | n + 1, x1, x2, x3, M0 => if (M0.1 123 3) ≤ x3 then (some ((-2), M0)) else (gz_ck (gz_inb x3 1024) <| gz_lt (M0.1 124 x3.toNatClampNeg) fun v3 => gz_ck (gz_inb x1 8) <| if ((M0.1 (11 + 5) x1.toNatClampNeg) &&& v3) = 0 then (gz_lt (x3 + 1) fun v6 => f11_overlap_83 n x1 x2 v6 M0) else (gz_ck (gz_inb x2 8) <| if ((M0.1 (11 + 5) x2.toNatClampNeg) &&& v3) = 0 then (gz_lt (x3 + 1) fun v9 => f11_overlap_83 n x1 x2 v9 M0) else (gz_bd2 (f11_tellRowTo v3 M0) fun v10 M11 => some (v10, M11))))
theorem b11_overlap_83 {x : gz_X} {pf : Nat → Bool} {l : Launch} {r : Int32} {M' : gz_M} (X : gz_Ok x cX11_overlap RX11 5 5 gz_cfC pf l) (hc : gx_cells x ≤ (gx_R x).cells ∧ gx_slots x ≤ (gx_R x).slots) (hE : gz_EI x cX11_overlap .int r M') : ∀ (n : Nat) (x1 : Int32) (x2 : Int32) (x3 : Int32) (M0 : gz_M), f11_overlap_83 n x1 x2 x3 M0 = some (r, M') → gz_At x 83 [(0, .ref (gx_ad x 0)), (1, .int x1), (2, .int x2), (3, .int x3)] [] M0 := by
  intro n
  induction n with
  | zero =>
    intro x1 x2 x3 M0  hf
    rw [f11_overlap_83] at hf
    cases hf
  | succ n ih =>
    intro x1 x2 x3 M0  hf
    rw [f11_overlap_83] at hf
    refine gr_iload_n X dX11_overlap_83 3 rfl rfl ?_
    refine gr_aload_n X dX11_overlap_84 0 rfl rfl ?_
    refine gf11_10 X wf_RX11_74 dX11_overlap_85 ?_
    refine gf8_3 X wf_RX11_305 dX11_overlap_88 ?_
    refine gr_icmp_ge 148 X dX11_overlap_91 (by decide) (fun h1 => ?_) (fun h1 => ?_)
    · rw [if_pos h1] at hf
      refine gr_bipush (-2) X dX11_overlap_148 (by decide) ?_
      exact gz_EIu hE hf rfl dX11_overlap_150
    · rw [if_neg h1] at hf
      refine gr_aload_n X dX11_overlap_94 0 rfl rfl ?_
      refine gf11_10 X wf_RX11_74 dX11_overlap_95 ?_
      refine gf8_0 X wf_RX11_306 dX11_overlap_98 ?_
      refine gr_iload_n X dX11_overlap_101 3 rfl rfl ?_
      obtain ⟨h2, hf⟩ := gz_cke hf
      refine gr_iaload X gk_C124 (gz_inp h2) dX11_overlap_102 ?_
      obtain ⟨v3, ev3, hf⟩ := gz_lte hf
      refine gr_istore [(4, .int v3), (0, .ref (gx_ad x 0)), (1, .int x1), (2, .int x2), (3, .int x3)] X dX11_overlap_103 ev3 (by decide) rfl ?_
      refine gr_aload_n X dX11_overlap_105 1 rfl rfl ?_
      refine gf11_4 X wf_RX11_40 dX11_overlap_106 ?_
      refine gf7_5 X (gk_X7o gi_table) wf_RX11_315 dX11_overlap_109 ?_
      refine gr_iload_n X dX11_overlap_112 2 rfl rfl ?_
      obtain ⟨h4, hf⟩ := gz_cke hf
      refine gr_iaload X (gk_X75 gi_table) (gz_inp h4) dX11_overlap_113 ?_
      refine gr_iload X dX11_overlap_114 0 rfl ?_
      refine gr_iand X dX11_overlap_116 ?_
      refine gr_if_eq 142 X dX11_overlap_117 (by decide) (fun h5 => ?_) (fun h5 => ?_)
      · rw [if_pos h5] at hf
        obtain ⟨v6, ev6, hf⟩ := gz_lte hf
        refine gr_iinc 1 [(3, .int v6), (4, .int v3), (0, .ref (gx_ad x 0)), (1, .int x1), (2, .int x2)] X dX11_overlap_142 4 rfl (by decide) ev6 (by decide) rfl ?_
        refine gr_goto 83 X dX11_overlap_145 (by decide) ?_
        refine gr_sub (lv' := [(0, .ref (gx_ad x 0)), (1, .int x1), (2, .int x2), (3, .int v6)]) [2, 3, 4, 0] rfl ?_
        exact ih _ _ _ _ hf
      · rw [if_neg h5] at hf
        refine gr_aload_n X dX11_overlap_120 1 rfl rfl ?_
        refine gf11_4 X wf_RX11_40 dX11_overlap_121 ?_
        refine gf7_5 X (gk_X7o gi_table) wf_RX11_315 dX11_overlap_124 ?_
        refine gr_iload_n X dX11_overlap_127 3 rfl rfl ?_
        obtain ⟨h7, hf⟩ := gz_cke hf
        refine gr_iaload X (gk_X75 gi_table) (gz_inp h7) dX11_overlap_128 ?_
        refine gr_iload X dX11_overlap_129 0 rfl ?_
        refine gr_iand X dX11_overlap_131 ?_
        refine gr_if_eq 142 X dX11_overlap_132 (by decide) (fun h8 => ?_) (fun h8 => ?_)
        · rw [if_pos h8] at hf
          obtain ⟨v9, ev9, hf⟩ := gz_lte hf
          refine gr_iinc 1 [(3, .int v9), (4, .int v3), (0, .ref (gx_ad x 0)), (1, .int x1), (2, .int x2)] X dX11_overlap_142 4 rfl (by decide) ev9 (by decide) rfl ?_
          refine gr_goto 83 X dX11_overlap_145 (by decide) ?_
          refine gr_sub (lv' := [(0, .ref (gx_ad x 0)), (1, .int x1), (2, .int x2), (3, .int v9)]) [2, 3, 4, 0] rfl ?_
          exact ih _ _ _ _ hf
        · rw [if_neg h8] at hf
          refine gr_aload_n X dX11_overlap_135 1 rfl rfl ?_
          refine gr_iload X dX11_overlap_136 0 rfl ?_
          obtain ⟨v10, M11, q12, hf⟩ := gz_bd2e hf
          refine gr_callI (asF := fun ad => [.ref (ad 0), .int v3]) [.int v3] X (c11_tellRowTo q12) rfl wm_RX11_312 rfl (X.kd gk_C0).1 ((X.kd gk_C0).2 _ _ _ _) rfl (by decide) (by decide) rfl (Nat.le_of_ble_eq_true rfl) hc dX11_overlap_138 ?_
          exact gz_EIu hE hf rfl dX11_overlap_141

def f11_overlap (a0 : Int32) (a1 : Int32) (M0 : gz_M) : Option (Int32 × gz_M) := if a0 < 0 then (some ((-1), M0)) else (if (M0.1 11 0) ≤ a0 then (some ((-1), M0)) else (if a1 < 0 then (some ((-1), M0)) else (if (M0.1 11 0) ≤ a1 then (some ((-1), M0)) else (if a0 = a1 then (some ((-1), M0)) else (gz_ck (gz_inb a0 8) <| gz_ck (gz_inb a1 8) <| if (M0.1 (11 + 1) a0.toNatClampNeg) = (M0.1 (11 + 1) a1.toNatClampNeg) then (gz_ck (gz_inb a0 8) <| gz_bd (f8_explore 11 (M0.1 (11 + 1) a0.toNatClampNeg) M0) fun M10 => f11_overlap_83 gz_FU a0 a1 0 M10) else (some ((-3), M0)))))))
set_option maxRecDepth 100000 in
theorem c11_overlap {pf : Nat → Bool} {l : Launch} {r : Int32} {M0 M' : gz_M} {a0 : Int32} {a1 : Int32} (hf : f11_overlap a0 a1 M0 = some (r, M')) : gz_CI l gz_cfC yX11_overlap cX11_overlap 5 5 .int (fun ad => [.ref (ad 0), .int a0, .int a1]) pf M0 r M' := by
  refine gz_ofI (by decide +kernel) (fun _ => Nat.le_of_ble_eq_true rfl) (fun x X hc hE => ?_)
  show gz_At x 0 [(0, .ref (gx_ad x 0)), (1, .int a0), (2, .int a1)] [] M0
  unfold f11_overlap at hf
  refine gr_iload_n X dX11_overlap_0 1 rfl rfl ?_
  refine gr_if_lt 35 X dX11_overlap_1 (by decide) (fun h1 => ?_) (fun h1 => ?_)
  · rw [if_pos h1] at hf
    refine gr_iconst (-1) X dX11_overlap_35 (by decide) ?_
    exact gz_EIu hE hf rfl dX11_overlap_36
  · rw [if_neg h1] at hf
    refine gr_iload_n X dX11_overlap_4 1 rfl rfl ?_
    refine gr_aload_n X dX11_overlap_5 0 rfl rfl ?_
    refine gf11_4 X wf_RX11_40 dX11_overlap_6 ?_
    refine gf7_0 X (gk_X7o gi_table) wf_RX11_135 dX11_overlap_9 ?_
    refine gr_icmp_ge 35 X dX11_overlap_12 (by decide) (fun h2 => ?_) (fun h2 => ?_)
    · rw [if_pos h2] at hf
      refine gr_iconst (-1) X dX11_overlap_35 (by decide) ?_
      exact gz_EIu hE hf rfl dX11_overlap_36
    · rw [if_neg h2] at hf
      refine gr_iload_n X dX11_overlap_15 2 rfl rfl ?_
      refine gr_if_lt 35 X dX11_overlap_16 (by decide) (fun h3 => ?_) (fun h3 => ?_)
      · rw [if_pos h3] at hf
        refine gr_iconst (-1) X dX11_overlap_35 (by decide) ?_
        exact gz_EIu hE hf rfl dX11_overlap_36
      · rw [if_neg h3] at hf
        refine gr_iload_n X dX11_overlap_19 2 rfl rfl ?_
        refine gr_aload_n X dX11_overlap_20 0 rfl rfl ?_
        refine gf11_4 X wf_RX11_40 dX11_overlap_21 ?_
        refine gf7_0 X (gk_X7o gi_table) wf_RX11_135 dX11_overlap_24 ?_
        refine gr_icmp_ge 35 X dX11_overlap_27 (by decide) (fun h4 => ?_) (fun h4 => ?_)
        · rw [if_pos h4] at hf
          refine gr_iconst (-1) X dX11_overlap_35 (by decide) ?_
          exact gz_EIu hE hf rfl dX11_overlap_36
        · rw [if_neg h4] at hf
          refine gr_iload_n X dX11_overlap_30 1 rfl rfl ?_
          refine gr_iload_n X dX11_overlap_31 2 rfl rfl ?_
          refine gr_icmp_ne 37 X dX11_overlap_32 (by decide) (fun h5 => ?_) (fun h5 => ?_)
          · rw [if_pos h5] at hf
            refine gr_iconst (-1) X dX11_overlap_35 (by decide) ?_
            exact gz_EIu hE hf rfl dX11_overlap_36
          · rw [if_neg h5] at hf
            refine gr_aload_n X dX11_overlap_37 0 rfl rfl ?_
            refine gf11_4 X wf_RX11_40 dX11_overlap_38 ?_
            refine gf7_1 X (gk_X7o gi_table) wf_RX11_154 dX11_overlap_41 ?_
            refine gr_iload_n X dX11_overlap_44 1 rfl rfl ?_
            obtain ⟨h6, hf⟩ := gz_cke hf
            refine gr_iaload X (gk_X71 gi_table) (gz_inp h6) dX11_overlap_45 ?_
            refine gr_aload_n X dX11_overlap_46 0 rfl rfl ?_
            refine gf11_4 X wf_RX11_40 dX11_overlap_47 ?_
            refine gf7_1 X (gk_X7o gi_table) wf_RX11_154 dX11_overlap_50 ?_
            refine gr_iload_n X dX11_overlap_53 2 rfl rfl ?_
            obtain ⟨h7, hf⟩ := gz_cke hf
            refine gr_iaload X (gk_X71 gi_table) (gz_inp h7) dX11_overlap_54 ?_
            refine gr_icmp_eq 61 X dX11_overlap_55 (by decide) (fun h8 => ?_) (fun h8 => ?_)
            · rw [if_pos h8] at hf
              refine gr_aload_n X dX11_overlap_61 0 rfl rfl ?_
              refine gf11_10 X wf_RX11_74 dX11_overlap_62 ?_
              refine gr_aload_n X dX11_overlap_65 0 rfl rfl ?_
              refine gf11_4 X wf_RX11_40 dX11_overlap_66 ?_
              refine gr_aload_n X dX11_overlap_69 0 rfl rfl ?_
              refine gf11_4 X wf_RX11_40 dX11_overlap_70 ?_
              refine gf7_1 X (gk_X7o gi_table) wf_RX11_154 dX11_overlap_73 ?_
              refine gr_iload_n X dX11_overlap_76 1 rfl rfl ?_
              obtain ⟨h9, hf⟩ := gz_cke hf
              refine gr_iaload X (gk_X71 gi_table) (gz_inp h9) dX11_overlap_77 ?_
              obtain ⟨M10, q11, hf⟩ := gz_bde hf
              refine gr_callV (asF := fun ad => [.ref (ad 123), .ref (ad 11), .int (M0.1 (11 + 1) a0.toNatClampNeg)]) [.ref (gx_ad x 11), .int (M0.1 (11 + 1) a0.toNatClampNeg)] X (c8_explore gi_table q11) rfl wm_RX11_301 rfl (X.kd gk_C123).1 ((X.kd gk_C123).2 _ _ _ _) rfl (by decide) (by decide) rfl (Nat.le_of_ble_eq_true rfl) hc dX11_overlap_78 ?_
              refine gr_iconst 0 X dX11_overlap_81 (by decide) ?_
              refine gr_istore_n [(3, .int 0), (0, .ref (gx_ad x 0)), (1, .int a0), (2, .int a1)] X dX11_overlap_82 rfl rfl (by decide) rfl ?_
              refine gr_sub (lv' := [(0, .ref (gx_ad x 0)), (1, .int a0), (2, .int a1), (3, .int 0)]) [1, 2, 3, 0] rfl ?_
              exact b11_overlap_83 X hc hE _ _ _ _ _ hf
            · rw [if_neg h8] at hf
              refine gr_bipush (-3) X dX11_overlap_58 (by decide) ?_
              exact gz_EIu hE hf rfl dX11_overlap_60

def f11_ways (a0 : Int32) (a1 : Int32) (M0 : gz_M) : Option (Int32 × gz_M) := gz_bd2 (f11_isStretch a0 a1 M0) fun v1 M2 => if v1 = 0 then (some ((-1), M2)) else (gz_bd (f9_make 11 (7 + 2) a0 a1 M2) fun M5 => gz_lt (gz_w M5 0 15 0) fun M7 => gz_ck (gz_inb a0 25) <| gz_bd (f11_tell ((M7.1 130 a0.toNatClampNeg).toInt64) M7) fun M9 => gz_ck (gz_inb a0 25) <| some (gz_min (M9.1 129 a0.toNatClampNeg) 1000000, M9))
set_option maxRecDepth 100000 in
theorem c11_ways {pf : Nat → Bool} {l : Launch} {r : Int32} {M0 M' : gz_M} {a0 : Int32} {a1 : Int32} (hf : f11_ways a0 a1 M0 = some (r, M')) : gz_CI l gz_cfC yX11_ways cX11_ways 3 5 .int (fun ad => [.ref (ad 0), .int a0, .int a1]) pf M0 r M' := by
  refine gz_ofI (by decide +kernel) (fun _ => Nat.le_of_ble_eq_true rfl) (fun x X hc hE => ?_)
  show gz_At x 0 [(0, .ref (gx_ad x 0)), (1, .int a0), (2, .int a1)] [] M0
  unfold f11_ways at hf
  refine gr_aload_n X dX11_ways_0 0 rfl rfl ?_
  refine gr_iload_n X dX11_ways_1 1 rfl rfl ?_
  refine gr_iload_n X dX11_ways_2 2 rfl rfl ?_
  obtain ⟨v1, M2, q3, hf⟩ := gz_bd2e hf
  refine gr_callI (asF := fun ad => [.ref (ad 0), .int a0, .int a1]) [.int a0, .int a1] X (c11_isStretch q3) rfl wm_RX11_273 rfl (X.kd gk_C0).1 ((X.kd gk_C0).2 _ _ _ _) rfl (by decide) (by decide) rfl (Nat.le_of_ble_eq_true rfl) hc dX11_ways_3 ?_
  refine gr_if_ne 11 X dX11_ways_6 (by decide) (fun h4 => ?_) (fun h4 => ?_)
  · rw [if_pos h4] at hf
    refine gr_iconst (-1) X dX11_ways_9 (by decide) ?_
    exact gz_EIu hE hf rfl dX11_ways_10
  · rw [if_neg h4] at hf
    refine gr_aload_n X dX11_ways_11 0 rfl rfl ?_
    refine gf11_11 X wf_RX11_81 dX11_ways_12 ?_
    refine gr_aload_n X dX11_ways_15 0 rfl rfl ?_
    refine gf11_4 X wf_RX11_40 dX11_ways_16 ?_
    refine gr_aload_n X dX11_ways_19 0 rfl rfl ?_
    refine gf11_3 X wf_RX11_33 dX11_ways_20 ?_
    refine gf0_2 X (gk_X0o gi_now) wf_RX11_141 dX11_ways_23 ?_
    refine gr_iload_n X dX11_ways_26 1 rfl rfl ?_
    refine gr_iload_n X dX11_ways_27 2 rfl rfl ?_
    obtain ⟨M5, q6, hf⟩ := gz_bde hf
    refine gr_callV (asF := fun ad => [.ref (ad 127), .ref (ad 11), .ref (ad (7 + 2)), .int a0, .int a1]) [.ref (gx_ad x 11), .ref (gx_ad x (7 + 2)), .int a0, .int a1] X (c9_make gi_table (gi_X0line gi_now) q6) rfl wm_RX11_318 rfl (X.kd gk_C127).1 ((X.kd gk_C127).2 _ _ _ _) rfl (by decide) (by decide) rfl (Nat.le_of_ble_eq_true rfl) hc dX11_ways_28 ?_
    refine gr_aload_n X dX11_ways_31 0 rfl rfl ?_
    refine gr_iconst 0 X dX11_ways_32 (by decide) ?_
    obtain ⟨M7, eM7, hf⟩ := gz_lte hf
    refine gp11_15 X wf_RX11_100 eM7 dX11_ways_33 ?_
    refine gr_aload_n X dX11_ways_36 0 rfl rfl ?_
    refine gr_aload_n X dX11_ways_37 0 rfl rfl ?_
    refine gf11_11 X wf_RX11_81 dX11_ways_38 ?_
    refine gf9_2 X wf_RX11_320 dX11_ways_41 ?_
    refine gr_iload_n X dX11_ways_44 1 rfl rfl ?_
    obtain ⟨h8, hf⟩ := gz_cke hf
    refine gr_iaload X gk_C130 (gz_inp h8) dX11_ways_45 ?_
    refine gr_i2l X dX11_ways_46 ?_
    obtain ⟨M9, q10, hf⟩ := gz_bde hf
    refine gr_callV (asF := fun ad => [.ref (ad 0), .long ((M7.1 130 a0.toNatClampNeg).toInt64)]) [.long ((M7.1 130 a0.toNatClampNeg).toInt64)] X (c11_tell q10) rfl wm_RX11_196 rfl (X.kd gk_C0).1 ((X.kd gk_C0).2 _ _ _ _) rfl (by decide) (by decide) rfl (Nat.le_of_ble_eq_true rfl) hc dX11_ways_47 ?_
    refine gr_aload_n X dX11_ways_50 0 rfl rfl ?_
    refine gf11_11 X wf_RX11_81 dX11_ways_51 ?_
    refine gf9_1 X wf_RX11_323 dX11_ways_54 ?_
    refine gr_iload_n X dX11_ways_57 1 rfl rfl ?_
    obtain ⟨h11, hf⟩ := gz_cke hf
    refine gr_iaload X gk_C129 (gz_inp h11) dX11_ways_58 ?_
    refine gr_ldc_w 1000000 X dX11_ways_59 wk_RX11_326 ?_
    refine gr_mmin X (by decide) wl_RX11_327 hc (Nat.le_of_ble_eq_true rfl) dX11_ways_62 ?_
    exact gz_EIu hE hf rfl dX11_ways_65

def f11_fewest_59 : Nat → Int32 → Int32 → Int32 → Int32 → gz_M → Option (Int32 × gz_M)
  | 0, _, _, _, _, _ => none
  | n + 1, x1, x2, x3, x4, M0 => if x2 < x4 then (gz_ck (gz_inb x1 25) <| some (M0.1 130 x1.toNatClampNeg, M0)) else (gz_bd2 (f9_leads x3 x4 M0) fun v3 M4 => if v3 = 0 then (gz_lt (x4 + 1) fun v7 => f11_fewest_59 n x1 x2 x3 v7 M4) else (gz_bd (f11_tell (x4.toInt64) M4) fun M8 => gz_lt (x4 + 1) fun v10 => f11_fewest_59 n x1 x2 x4 v10 M8))
theorem b11_fewest_59 {x : gz_X} {pf : Nat → Bool} {l : Launch} {r : Int32} {M' : gz_M} (X : gz_Ok x cX11_fewest RX11 5 5 gz_cfC pf l) (hc : gx_cells x ≤ (gx_R x).cells ∧ gx_slots x ≤ (gx_R x).slots) (hE : gz_EI x cX11_fewest .int r M') : ∀ (n : Nat) (x1 : Int32) (x2 : Int32) (x3 : Int32) (x4 : Int32) (M0 : gz_M), f11_fewest_59 n x1 x2 x3 x4 M0 = some (r, M') → gz_At x 59 [(0, .ref (gx_ad x 0)), (1, .int x1), (2, .int x2), (3, .int x3), (4, .int x4)] [] M0 := by
  intro n
  induction n with
  | zero =>
    intro x1 x2 x3 x4 M0  hf
    rw [f11_fewest_59] at hf
    cases hf
  | succ n ih =>
    intro x1 x2 x3 x4 M0  hf
    rw [f11_fewest_59] at hf
    refine gr_iload X dX11_fewest_59 4 rfl ?_
    refine gr_iload_n X dX11_fewest_61 2 rfl rfl ?_
    refine gr_icmp_gt 94 X dX11_fewest_62 (by decide) (fun h1 => ?_) (fun h1 => ?_)
    · rw [if_pos h1] at hf
      refine gr_aload_n X dX11_fewest_94 0 rfl rfl ?_
      refine gf11_11 X wf_RX11_81 dX11_fewest_95 ?_
      refine gf9_2 X wf_RX11_320 dX11_fewest_98 ?_
      refine gr_iload_n X dX11_fewest_101 1 rfl rfl ?_
      obtain ⟨h2, hf⟩ := gz_cke hf
      refine gr_iaload X gk_C130 (gz_inp h2) dX11_fewest_102 ?_
      exact gz_EIu hE hf rfl dX11_fewest_103
    · rw [if_neg h1] at hf
      refine gr_aload_n X dX11_fewest_65 0 rfl rfl ?_
      refine gf11_11 X wf_RX11_81 dX11_fewest_66 ?_
      refine gr_iload_n X dX11_fewest_69 3 rfl rfl ?_
      refine gr_iload X dX11_fewest_70 4 rfl ?_
      obtain ⟨v3, M4, q5, hf⟩ := gz_bd2e hf
      refine gr_callI (asF := fun ad => [.ref (ad 127), .int x3, .int x4]) [.int x3, .int x4] X (c9_leads q5) rfl wm_RX11_330 rfl (X.kd gk_C127).1 ((X.kd gk_C127).2 _ _ _ _) rfl (by decide) (by decide) rfl (Nat.le_of_ble_eq_true rfl) hc dX11_fewest_72 ?_
      refine gr_if_eq 88 X dX11_fewest_75 (by decide) (fun h6 => ?_) (fun h6 => ?_)
      · rw [if_pos h6] at hf
        obtain ⟨v7, ev7, hf⟩ := gz_lte hf
        refine gr_iinc 1 [(4, .int v7), (0, .ref (gx_ad x 0)), (1, .int x1), (2, .int x2), (3, .int x3)] X dX11_fewest_88 4 rfl (by decide) ev7 (by decide) rfl ?_
        refine gr_goto 59 X dX11_fewest_91 (by decide) ?_
        refine gr_sub (lv' := [(0, .ref (gx_ad x 0)), (1, .int x1), (2, .int x2), (3, .int x3), (4, .int v7)]) [1, 2, 3, 4, 0] rfl ?_
        exact ih _ _ _ _ _ hf
      · rw [if_neg h6] at hf
        refine gr_aload_n X dX11_fewest_78 0 rfl rfl ?_
        refine gr_iload X dX11_fewest_79 4 rfl ?_
        refine gr_i2l X dX11_fewest_81 ?_
        obtain ⟨M8, q9, hf⟩ := gz_bde hf
        refine gr_callV (asF := fun ad => [.ref (ad 0), .long (x4.toInt64)]) [.long (x4.toInt64)] X (c11_tell q9) rfl wm_RX11_196 rfl (X.kd gk_C0).1 ((X.kd gk_C0).2 _ _ _ _) rfl (by decide) (by decide) rfl (Nat.le_of_ble_eq_true rfl) hc dX11_fewest_82 ?_
        refine gr_iload X dX11_fewest_85 4 rfl ?_
        refine gr_istore_n [(3, .int x4), (0, .ref (gx_ad x 0)), (1, .int x1), (2, .int x2), (4, .int x4)] X dX11_fewest_87 rfl rfl (by decide) rfl ?_
        obtain ⟨v10, ev10, hf⟩ := gz_lte hf
        refine gr_iinc 1 [(4, .int v10), (3, .int x4), (0, .ref (gx_ad x 0)), (1, .int x1), (2, .int x2)] X dX11_fewest_88 4 rfl (by decide) ev10 (by decide) rfl ?_
        refine gr_goto 59 X dX11_fewest_91 (by decide) ?_
        refine gr_sub (lv' := [(0, .ref (gx_ad x 0)), (1, .int x1), (2, .int x2), (3, .int x4), (4, .int v10)]) [2, 3, 4, 1, 0] rfl ?_
        exact ih _ _ _ _ _ hf

def f11_fewest (a0 : Int32) (a1 : Int32) (M0 : gz_M) : Option (Int32 × gz_M) := gz_bd2 (f11_isStretch a0 a1 M0) fun v1 M2 => if v1 = 0 then (some ((-1), M2)) else (gz_bd (f9_make 11 (7 + 2) a0 a1 M2) fun M5 => gz_ck (gz_inb a0 25) <| if (M5.1 130 a0.toNatClampNeg) = (-1) then (some ((-2), M5)) else (gz_lt (gz_w M5 0 15 0) fun M9 => gz_lt (a0 + 1) fun v10 => f11_fewest_59 gz_FU a0 a1 a0 v10 M9))
set_option maxRecDepth 100000 in
theorem c11_fewest {pf : Nat → Bool} {l : Launch} {r : Int32} {M0 M' : gz_M} {a0 : Int32} {a1 : Int32} (hf : f11_fewest a0 a1 M0 = some (r, M')) : gz_CI l gz_cfC yX11_fewest cX11_fewest 5 5 .int (fun ad => [.ref (ad 0), .int a0, .int a1]) pf M0 r M' := by
  refine gz_ofI (by decide +kernel) (fun _ => Nat.le_of_ble_eq_true rfl) (fun x X hc hE => ?_)
  show gz_At x 0 [(0, .ref (gx_ad x 0)), (1, .int a0), (2, .int a1)] [] M0
  unfold f11_fewest at hf
  refine gr_aload_n X dX11_fewest_0 0 rfl rfl ?_
  refine gr_iload_n X dX11_fewest_1 1 rfl rfl ?_
  refine gr_iload_n X dX11_fewest_2 2 rfl rfl ?_
  obtain ⟨v1, M2, q3, hf⟩ := gz_bd2e hf
  refine gr_callI (asF := fun ad => [.ref (ad 0), .int a0, .int a1]) [.int a0, .int a1] X (c11_isStretch q3) rfl wm_RX11_273 rfl (X.kd gk_C0).1 ((X.kd gk_C0).2 _ _ _ _) rfl (by decide) (by decide) rfl (Nat.le_of_ble_eq_true rfl) hc dX11_fewest_3 ?_
  refine gr_if_ne 11 X dX11_fewest_6 (by decide) (fun h4 => ?_) (fun h4 => ?_)
  · rw [if_pos h4] at hf
    refine gr_iconst (-1) X dX11_fewest_9 (by decide) ?_
    exact gz_EIu hE hf rfl dX11_fewest_10
  · rw [if_neg h4] at hf
    refine gr_aload_n X dX11_fewest_11 0 rfl rfl ?_
    refine gf11_11 X wf_RX11_81 dX11_fewest_12 ?_
    refine gr_aload_n X dX11_fewest_15 0 rfl rfl ?_
    refine gf11_4 X wf_RX11_40 dX11_fewest_16 ?_
    refine gr_aload_n X dX11_fewest_19 0 rfl rfl ?_
    refine gf11_3 X wf_RX11_33 dX11_fewest_20 ?_
    refine gf0_2 X (gk_X0o gi_now) wf_RX11_141 dX11_fewest_23 ?_
    refine gr_iload_n X dX11_fewest_26 1 rfl rfl ?_
    refine gr_iload_n X dX11_fewest_27 2 rfl rfl ?_
    obtain ⟨M5, q6, hf⟩ := gz_bde hf
    refine gr_callV (asF := fun ad => [.ref (ad 127), .ref (ad 11), .ref (ad (7 + 2)), .int a0, .int a1]) [.ref (gx_ad x 11), .ref (gx_ad x (7 + 2)), .int a0, .int a1] X (c9_make gi_table (gi_X0line gi_now) q6) rfl wm_RX11_318 rfl (X.kd gk_C127).1 ((X.kd gk_C127).2 _ _ _ _) rfl (by decide) (by decide) rfl (Nat.le_of_ble_eq_true rfl) hc dX11_fewest_28 ?_
    refine gr_aload_n X dX11_fewest_31 0 rfl rfl ?_
    refine gf11_11 X wf_RX11_81 dX11_fewest_32 ?_
    refine gf9_2 X wf_RX11_320 dX11_fewest_35 ?_
    refine gr_iload_n X dX11_fewest_38 1 rfl rfl ?_
    obtain ⟨h7, hf⟩ := gz_cke hf
    refine gr_iaload X gk_C130 (gz_inp h7) dX11_fewest_39 ?_
    refine gr_iconst (-1) X dX11_fewest_40 (by decide) ?_
    refine gr_icmp_ne 47 X dX11_fewest_41 (by decide) (fun h8 => ?_) (fun h8 => ?_)
    · rw [if_pos h8] at hf
      refine gr_bipush (-2) X dX11_fewest_44 (by decide) ?_
      exact gz_EIu hE hf rfl dX11_fewest_46
    · rw [if_neg h8] at hf
      refine gr_aload_n X dX11_fewest_47 0 rfl rfl ?_
      refine gr_iconst 0 X dX11_fewest_48 (by decide) ?_
      obtain ⟨M9, eM9, hf⟩ := gz_lte hf
      refine gp11_15 X wf_RX11_100 eM9 dX11_fewest_49 ?_
      refine gr_iload_n X dX11_fewest_52 1 rfl rfl ?_
      refine gr_istore_n [(3, .int a0), (0, .ref (gx_ad x 0)), (1, .int a0), (2, .int a1)] X dX11_fewest_53 rfl rfl (by decide) rfl ?_
      refine gr_iload_n X dX11_fewest_54 2 rfl rfl ?_
      refine gr_iconst 1 X dX11_fewest_55 (by decide) ?_
      refine gr_iadd X dX11_fewest_56 ?_
      obtain ⟨v10, ev10, hf⟩ := gz_lte hf
      refine gr_istore [(4, .int v10), (3, .int a0), (0, .ref (gx_ad x 0)), (1, .int a0), (2, .int a1)] X dX11_fewest_57 ev10 (by decide) rfl ?_
      refine gr_sub (lv' := [(0, .ref (gx_ad x 0)), (1, .int a0), (2, .int a1), (3, .int a0), (4, .int v10)]) [2, 3, 4, 1, 0] rfl ?_
      exact b11_fewest_59 X hc hE _ _ _ _ _ _ hf

def f11_touched_72 (x2 : Int32) (s0 : Int64) (M0 : gz_M) : Option (Int32 × gz_M) := gz_bd (f11_tell s0 M0) fun M1 => some ((M1.1 (gz_cIx (M1.1 0 5)) 0) - x2, M1)
theorem b11_touched_72 {x : gz_X} {pf : Nat → Bool} {l : Launch} {r : Int32} {M' : gz_M} (X : gz_Ok x cX11_touched RX11 3 3 gz_cfC pf l) (hc : gx_cells x ≤ (gx_R x).cells ∧ gx_slots x ≤ (gx_R x).slots) (hE : gz_EI x cX11_touched .int r M') : ∀ (x2 : Int32) (s0 : Int64) (M0 : gz_M), f11_touched_72 x2 s0 M0 = some (r, M') → gz_At x 72 [(0, .ref (gx_ad x 0)), (2, .int x2)] [.long s0, .ref (gx_ad x 0)] M0 := by
  intro x2 s0 M0  hf
  rw [f11_touched_72] at hf
  obtain ⟨M1, q2, hf⟩ := gz_bde hf
  refine gr_callV (asF := fun ad => [.ref (ad 0), .long s0]) [.long s0] X (c11_tell q2) rfl wm_RX11_196 rfl (X.kd gk_C0).1 ((X.kd gk_C0).2 _ _ _ _) rfl (by decide) (by decide) rfl (Nat.le_of_ble_eq_true rfl) hc dX11_touched_72 ?_
  refine gr_aload_n X dX11_touched_75 0 rfl rfl ?_
  refine gf11_5 X wf_RX11_47 dX11_touched_76 ?_
  refine gf2_0 X (gk_X2o (gi_cut _)) wf_RX11_190 dX11_touched_79 ?_
  refine gr_iload_n X dX11_touched_82 1 rfl rfl ?_
  refine gr_isub X dX11_touched_83 ?_
  exact gz_EIu hE hf rfl dX11_touched_84

def f11_touched (a0 : Int32) (M0 : gz_M) : Option (Int32 × gz_M) := gz_bd2 (f5_has (7 + 2) a0 M0) fun v1 M2 => if v1 = 0 then (some ((-1), M2)) else (gz_bd2 (f2_aheadOf (gz_cIx (M2.1 0 5)) a0 M2) fun v5 M6 => gz_lt (gz_w M6 0 15 0) fun M8 => gz_bd (f11_tell (v5.toInt64) M8) fun M9 => if (M9.1 (gz_cIx (M9.1 0 5)) 0) ≤ v5 then (f11_touched_72 v5 ((M9.1 (7 + 2) 1).toInt64) M9) else (gz_ck (gz_inb v5 24) <| f11_touched_72 v5 ((M9.1 (gz_cIx (M9.1 0 5) + 2) v5.toNatClampNeg).toInt64) M9))
set_option maxRecDepth 100000 in
theorem c11_touched {pf : Nat → Bool} {l : Launch} {r : Int32} {M0 M' : gz_M} {a0 : Int32} (hf : f11_touched a0 M0 = some (r, M')) : gz_CI l gz_cfC yX11_touched cX11_touched 3 3 .int (fun ad => [.ref (ad 0), .int a0]) pf M0 r M' := by
  refine gz_ofI (by decide +kernel) (fun _ => Nat.le_of_ble_eq_true rfl) (fun x X hc hE => ?_)
  show gz_At x 0 [(0, .ref (gx_ad x 0)), (1, .int a0)] [] M0
  unfold f11_touched at hf
  refine gr_aload_n X dX11_touched_0 0 rfl rfl ?_
  refine gf11_3 X wf_RX11_33 dX11_touched_1 ?_
  refine gf0_2 X (gk_X0o gi_now) wf_RX11_141 dX11_touched_4 ?_
  refine gr_iload_n X dX11_touched_7 1 rfl rfl ?_
  obtain ⟨v1, M2, q3, hf⟩ := gz_bd2e hf
  refine gr_callI (asF := fun ad => [.ref (ad (7 + 2)), .int a0]) [.int a0] X (c5_has (gi_X0line gi_now) q3) rfl wm_RX11_170 rfl (X.kd (gk_X5o (gi_X0line gi_now))).1 ((X.kd (gk_X5o (gi_X0line gi_now))).2 _ _ _ _) rfl (by decide) (by decide) rfl (Nat.le_of_ble_eq_true rfl) hc dX11_touched_8 ?_
  refine gr_if_ne 16 X dX11_touched_11 (by decide) (fun h4 => ?_) (fun h4 => ?_)
  · rw [if_pos h4] at hf
    refine gr_iconst (-1) X dX11_touched_14 (by decide) ?_
    exact gz_EIu hE hf rfl dX11_touched_15
  · rw [if_neg h4] at hf
    refine gr_aload_n X dX11_touched_16 0 rfl rfl ?_
    refine gf11_5 X wf_RX11_47 dX11_touched_17 ?_
    refine gr_iload_n X dX11_touched_20 1 rfl rfl ?_
    obtain ⟨v5, M6, q7, hf⟩ := gz_bd2e hf
    refine gr_callI (asF := fun ad => [.ref (ad (gz_cIx (M2.1 0 5))), .int a0]) [.int a0] X (c2_aheadOf (gi_cut _) q7) rfl wm_RX11_333 rfl (X.kd (gk_X2o (gi_cut _))).1 ((X.kd (gk_X2o (gi_cut _))).2 _ _ _ _) rfl (by decide) (by decide) rfl (Nat.le_of_ble_eq_true rfl) hc dX11_touched_21 ?_
    refine gr_istore_n [(2, .int v5), (0, .ref (gx_ad x 0)), (1, .int a0)] X dX11_touched_24 rfl rfl (by decide) rfl ?_
    refine gr_aload_n X dX11_touched_25 1 rfl rfl ?_
    refine gr_iconst 0 X dX11_touched_26 (by decide) ?_
    obtain ⟨M8, eM8, hf⟩ := gz_lte hf
    refine gp11_15 X wf_RX11_100 eM8 dX11_touched_27 ?_
    refine gr_aload_n X dX11_touched_30 1 rfl rfl ?_
    refine gr_iload_n X dX11_touched_31 0 rfl rfl ?_
    refine gr_i2l X dX11_touched_32 ?_
    obtain ⟨M9, q10, hf⟩ := gz_bde hf
    refine gr_callV (asF := fun ad => [.ref (ad 0), .long (v5.toInt64)]) [.long (v5.toInt64)] X (c11_tell q10) rfl wm_RX11_196 rfl (X.kd gk_C0).1 ((X.kd gk_C0).2 _ _ _ _) rfl (by decide) (by decide) rfl (Nat.le_of_ble_eq_true rfl) hc dX11_touched_33 ?_
    refine gr_aload_n X dX11_touched_36 1 rfl rfl ?_
    refine gr_iload_n X dX11_touched_37 0 rfl rfl ?_
    refine gr_aload_n X dX11_touched_38 1 rfl rfl ?_
    refine gf11_5 X wf_RX11_47 dX11_touched_39 ?_
    refine gf2_0 X (gk_X2o (gi_cut _)) wf_RX11_190 dX11_touched_42 ?_
    refine gr_icmp_ge 61 X dX11_touched_45 (by decide) (fun h11 => ?_) (fun h11 => ?_)
    · rw [if_pos h11] at hf
      refine gr_aload_n X dX11_touched_61 1 rfl rfl ?_
      refine gf11_3 X wf_RX11_33 dX11_touched_62 ?_
      refine gf0_2 X (gk_X0o gi_now) wf_RX11_141 dX11_touched_65 ?_
      refine gf5_1 X (gk_X5o (gi_X0line gi_now)) wf_RX11_150 dX11_touched_68 ?_
      refine gr_i2l X dX11_touched_71 ?_
      refine gr_sub (lv' := [(0, .ref (gx_ad x 0)), (2, .int v5)]) [1, 0] rfl ?_
      exact b11_touched_72 X hc hE _ _ _ hf
    · rw [if_neg h11] at hf
      refine gr_aload_n X dX11_touched_48 1 rfl rfl ?_
      refine gf11_5 X wf_RX11_47 dX11_touched_49 ?_
      refine gf2_3 X (gk_X2o (gi_cut _)) wf_RX11_203 dX11_touched_52 ?_
      refine gr_iload_n X dX11_touched_55 0 rfl rfl ?_
      obtain ⟨h12, hf⟩ := gz_cke hf
      refine gr_iaload X (gk_X22 (gi_cut _)) (gz_inp h12) dX11_touched_56 ?_
      refine gr_i2l X dX11_touched_57 ?_
      refine gr_goto 72 X dX11_touched_58 (by decide) ?_
      refine gr_sub (lv' := [(0, .ref (gx_ad x 0)), (2, .int v5)]) [1, 0] rfl ?_
      exact b11_touched_72 X hc hE _ _ _ hf

def f11_same (a0 : Int32) (a1 : Int32) (a2 : Int32) (a3 : Int32) (a4 : Int32) (M0 : gz_M) : Option (Int32 × gz_M) := gz_bd2 (f11_isMode a0 M0) fun v1 M2 => if v1 = 0 then (some ((-1), M2)) else (gz_bd2 (f11_isStretch a1 a2 M2) fun v5 M6 => if v5 = 0 then (some ((-1), M6)) else (if a1 = a2 then (some ((-1), M6)) else (gz_bd2 (f11_isStretch a3 a4 M6) fun v10 M11 => if v10 = 0 then (some ((-1), M11)) else (if a3 = a4 then (some ((-1), M11)) else (gz_bd2 (f7_standing 11 (7 + 2) a0 a1 a2 M11) fun v15 M16 => gz_bd2 (f7_standing 11 (7 + 2) a0 a3 a4 M16) fun v18 M19 => gz_lt (gz_w M19 0 15 0) fun M21 => gz_bd2 (fJ_bitCount (v15 &&& v18) M21) fun v22 M23 => gz_bd (f11_tell (v22.toInt64) M23) fun M25 => if v15 = v18 then (some (1, M25)) else (some (0, M25)))))))
set_option maxRecDepth 100000 in
theorem c11_same {pf : Nat → Bool} {l : Launch} {r : Int32} {M0 M' : gz_M} {a0 : Int32} {a1 : Int32} {a2 : Int32} {a3 : Int32} {a4 : Int32} (hf : f11_same a0 a1 a2 a3 a4 M0 = some (r, M')) : gz_CI l gz_cfC yX11_same cX11_same 8 4 .int (fun ad => [.ref (ad 0), .int a0, .int a1, .int a2, .int a3, .int a4]) pf M0 r M' := by
  refine gz_ofI (by decide +kernel) (fun _ => Nat.le_of_ble_eq_true rfl) (fun x X hc hE => ?_)
  show gz_At x 0 [(0, .ref (gx_ad x 0)), (1, .int a0), (2, .int a1), (3, .int a2), (4, .int a3), (5, .int a4)] [] M0
  unfold f11_same at hf
  refine gr_iload_n X dX11_same_0 1 rfl rfl ?_
  obtain ⟨v1, M2, q3, hf⟩ := gz_bd2e hf
  refine gr_callSI (asF := fun _ => [.int a0]) [.int a0] X (c11_isMode q3) rfl wm_RX11_238 rfl (by decide) (by decide) rfl (Nat.le_of_ble_eq_true rfl) hc dX11_same_1 ?_
  refine gr_if_eq 39 X dX11_same_4 (by decide) (fun h4 => ?_) (fun h4 => ?_)
  · rw [if_pos h4] at hf
    refine gr_iconst (-1) X dX11_same_39 (by decide) ?_
    exact gz_EIu hE hf rfl dX11_same_40
  · rw [if_neg h4] at hf
    refine gr_aload_n X dX11_same_7 0 rfl rfl ?_
    refine gr_iload_n X dX11_same_8 2 rfl rfl ?_
    refine gr_iload_n X dX11_same_9 3 rfl rfl ?_
    obtain ⟨v5, M6, q7, hf⟩ := gz_bd2e hf
    refine gr_callI (asF := fun ad => [.ref (ad 0), .int a1, .int a2]) [.int a1, .int a2] X (c11_isStretch q7) rfl wm_RX11_273 rfl (X.kd gk_C0).1 ((X.kd gk_C0).2 _ _ _ _) rfl (by decide) (by decide) rfl (Nat.le_of_ble_eq_true rfl) hc dX11_same_10 ?_
    refine gr_if_eq 39 X dX11_same_13 (by decide) (fun h8 => ?_) (fun h8 => ?_)
    · rw [if_pos h8] at hf
      refine gr_iconst (-1) X dX11_same_39 (by decide) ?_
      exact gz_EIu hE hf rfl dX11_same_40
    · rw [if_neg h8] at hf
      refine gr_iload_n X dX11_same_16 2 rfl rfl ?_
      refine gr_iload_n X dX11_same_17 3 rfl rfl ?_
      refine gr_icmp_eq 39 X dX11_same_18 (by decide) (fun h9 => ?_) (fun h9 => ?_)
      · rw [if_pos h9] at hf
        refine gr_iconst (-1) X dX11_same_39 (by decide) ?_
        exact gz_EIu hE hf rfl dX11_same_40
      · rw [if_neg h9] at hf
        refine gr_aload_n X dX11_same_21 0 rfl rfl ?_
        refine gr_iload X dX11_same_22 4 rfl ?_
        refine gr_iload X dX11_same_24 5 rfl ?_
        obtain ⟨v10, M11, q12, hf⟩ := gz_bd2e hf
        refine gr_callI (asF := fun ad => [.ref (ad 0), .int a3, .int a4]) [.int a3, .int a4] X (c11_isStretch q12) rfl wm_RX11_273 rfl (X.kd gk_C0).1 ((X.kd gk_C0).2 _ _ _ _) rfl (by decide) (by decide) rfl (Nat.le_of_ble_eq_true rfl) hc dX11_same_26 ?_
        refine gr_if_eq 39 X dX11_same_29 (by decide) (fun h13 => ?_) (fun h13 => ?_)
        · rw [if_pos h13] at hf
          refine gr_iconst (-1) X dX11_same_39 (by decide) ?_
          exact gz_EIu hE hf rfl dX11_same_40
        · rw [if_neg h13] at hf
          refine gr_iload X dX11_same_32 4 rfl ?_
          refine gr_iload X dX11_same_34 5 rfl ?_
          refine gr_icmp_ne 41 X dX11_same_36 (by decide) (fun h14 => ?_) (fun h14 => ?_)
          · rw [if_pos h14] at hf
            refine gr_iconst (-1) X dX11_same_39 (by decide) ?_
            exact gz_EIu hE hf rfl dX11_same_40
          · rw [if_neg h14] at hf
            refine gr_aload_n X dX11_same_41 0 rfl rfl ?_
            refine gf11_4 X wf_RX11_40 dX11_same_42 ?_
            refine gr_iload_n X dX11_same_45 1 rfl rfl ?_
            refine gr_aload_n X dX11_same_46 0 rfl rfl ?_
            refine gf11_3 X wf_RX11_33 dX11_same_47 ?_
            refine gf0_2 X (gk_X0o gi_now) wf_RX11_141 dX11_same_50 ?_
            refine gr_iload_n X dX11_same_53 2 rfl rfl ?_
            refine gr_iload_n X dX11_same_54 3 rfl rfl ?_
            obtain ⟨v15, M16, q17, hf⟩ := gz_bd2e hf
            refine gr_callI (asF := fun ad => [.ref (ad 11), .int a0, .ref (ad (7 + 2)), .int a1, .int a2]) [.int a0, .ref (gx_ad x (7 + 2)), .int a1, .int a2] X (c7_standing gi_table (gi_X0line gi_now) q17) rfl wm_RX11_277 rfl (X.kd (gk_X7o gi_table)).1 ((X.kd (gk_X7o gi_table)).2 _ _ _ _) rfl (by decide) (by decide) rfl (Nat.le_of_ble_eq_true rfl) hc dX11_same_55 ?_
            refine gr_istore [(6, .int v15), (0, .ref (gx_ad x 0)), (1, .int a0), (2, .int a1), (3, .int a2), (4, .int a3), (5, .int a4)] X dX11_same_58 rfl (by decide) rfl ?_
            refine gr_aload_n X dX11_same_60 1 rfl rfl ?_
            refine gf11_4 X wf_RX11_40 dX11_same_61 ?_
            refine gr_iload_n X dX11_same_64 2 rfl rfl ?_
            refine gr_aload_n X dX11_same_65 1 rfl rfl ?_
            refine gf11_3 X wf_RX11_33 dX11_same_66 ?_
            refine gf0_2 X (gk_X0o gi_now) wf_RX11_141 dX11_same_69 ?_
            refine gr_iload X dX11_same_72 5 rfl ?_
            refine gr_iload X dX11_same_74 6 rfl ?_
            obtain ⟨v18, M19, q20, hf⟩ := gz_bd2e hf
            refine gr_callI (asF := fun ad => [.ref (ad 11), .int a0, .ref (ad (7 + 2)), .int a3, .int a4]) [.int a0, .ref (gx_ad x (7 + 2)), .int a3, .int a4] X (c7_standing gi_table (gi_X0line gi_now) q20) rfl wm_RX11_277 rfl (X.kd (gk_X7o gi_table)).1 ((X.kd (gk_X7o gi_table)).2 _ _ _ _) rfl (by decide) (by decide) rfl (Nat.le_of_ble_eq_true rfl) hc dX11_same_76 ?_
            refine gr_istore [(7, .int v18), (6, .int v15), (0, .ref (gx_ad x 0)), (1, .int a0), (2, .int a1), (3, .int a2), (4, .int a3), (5, .int a4)] X dX11_same_79 rfl (by decide) rfl ?_
            refine gr_aload_n X dX11_same_81 2 rfl rfl ?_
            refine gr_iconst 0 X dX11_same_82 (by decide) ?_
            obtain ⟨M21, eM21, hf⟩ := gz_lte hf
            refine gp11_15 X wf_RX11_100 eM21 dX11_same_83 ?_
            refine gr_aload_n X dX11_same_86 2 rfl rfl ?_
            refine gr_iload X dX11_same_87 1 rfl ?_
            refine gr_iload X dX11_same_89 0 rfl ?_
            refine gr_iand X dX11_same_91 ?_
            obtain ⟨v22, M23, q24, hf⟩ := gz_bd2e hf
            refine gr_callSI (asF := fun _ => [.int (v15 &&& v18)]) [.int (v15 &&& v18)] X (cJ_bitCount q24) rfl wm_RX11_296 rfl (by decide) (by decide) rfl (Nat.le_of_ble_eq_true rfl) hc dX11_same_92 ?_
            refine gr_i2l X dX11_same_95 ?_
            obtain ⟨M25, q26, hf⟩ := gz_bde hf
            refine gr_callV (asF := fun ad => [.ref (ad 0), .long (v22.toInt64)]) [.long (v22.toInt64)] X (c11_tell q26) rfl wm_RX11_196 rfl (X.kd gk_C0).1 ((X.kd gk_C0).2 _ _ _ _) rfl (by decide) (by decide) rfl (Nat.le_of_ble_eq_true rfl) hc dX11_same_96 ?_
            refine gr_iload X dX11_same_99 1 rfl ?_
            refine gr_iload X dX11_same_101 0 rfl ?_
            refine gr_icmp_ne 110 X dX11_same_103 (by decide) (fun h27 => ?_) (fun h27 => ?_)
            · rw [if_pos h27] at hf
              refine gr_iconst 1 X dX11_same_106 (by decide) ?_
              refine gr_goto 111 X dX11_same_107 (by decide) ?_
              exact gz_EIu hE hf rfl dX11_same_111
            · rw [if_neg h27] at hf
              refine gr_iconst 0 X dX11_same_110 (by decide) ?_
              exact gz_EIu hE hf rfl dX11_same_111

def f11_mends_38 : Nat → Int32 → Int32 → Int32 → Int32 → gz_M → Option (Int32 × gz_M)
  | 0, _, _, _, _, _ => none
  | n + 1, x1, x2, x3, x4, M0 => if 8 ≤ x4 then (gz_lt (gz_w M0 0 15 0) fun M2 => gz_bd (f11_tell (x3.toInt64) M2) fun M3 => some (x2, M3)) else (gz_bd (f5_put 58 x1 x4 M0) fun M5 => gz_bd (f2_make (gz_cIx (M5.1 0 8)) 11 58 M5) fun M7 => gz_bd2 (f2_stuckTokens (gz_cIx (M7.1 0 8)) M7) fun v9 M10 => if x3 ≤ v9 then (gz_lt (x4 + 1) fun v13 => f11_mends_38 n x1 x2 x3 v13 M10) else (gz_lt (x4 + 1) fun v14 => f11_mends_38 n x1 x4 v9 v14 M10))
theorem b11_mends_38 {x : gz_X} {pf : Nat → Bool} {l : Launch} {r : Int32} {M' : gz_M} (X : gz_Ok x cX11_mends RX11 6 5 gz_cfC pf l) (hc : gx_cells x ≤ (gx_R x).cells ∧ gx_slots x ≤ (gx_R x).slots) (hE : gz_EI x cX11_mends .int r M') : ∀ (n : Nat) (x1 : Int32) (x2 : Int32) (x3 : Int32) (x4 : Int32) (M0 : gz_M), f11_mends_38 n x1 x2 x3 x4 M0 = some (r, M') → gz_At x 38 [(0, .ref (gx_ad x 0)), (1, .int x1), (2, .int x2), (3, .int x3), (4, .int x4)] [] M0 := by
  intro n
  induction n with
  | zero =>
    intro x1 x2 x3 x4 M0  hf
    rw [f11_mends_38] at hf
    cases hf
  | succ n ih =>
    intro x1 x2 x3 x4 M0  hf
    rw [f11_mends_38] at hf
    refine gr_iload X dX11_mends_38 4 rfl ?_
    refine gr_bipush 8 X dX11_mends_40 (by decide) ?_
    refine gr_icmp_ge 97 X dX11_mends_42 (by decide) (fun h1 => ?_) (fun h1 => ?_)
    · rw [if_pos h1] at hf
      refine gr_aload_n X dX11_mends_97 0 rfl rfl ?_
      refine gr_iconst 0 X dX11_mends_98 (by decide) ?_
      obtain ⟨M2, eM2, hf⟩ := gz_lte hf
      refine gp11_15 X wf_RX11_100 eM2 dX11_mends_99 ?_
      refine gr_aload_n X dX11_mends_102 0 rfl rfl ?_
      refine gr_iload_n X dX11_mends_103 3 rfl rfl ?_
      refine gr_i2l X dX11_mends_104 ?_
      obtain ⟨M3, q4, hf⟩ := gz_bde hf
      refine gr_callV (asF := fun ad => [.ref (ad 0), .long (x3.toInt64)]) [.long (x3.toInt64)] X (c11_tell q4) rfl wm_RX11_196 rfl (X.kd gk_C0).1 ((X.kd gk_C0).2 _ _ _ _) rfl (by decide) (by decide) rfl (Nat.le_of_ble_eq_true rfl) hc dX11_mends_105 ?_
      refine gr_iload_n X dX11_mends_108 2 rfl rfl ?_
      exact gz_EIu hE hf rfl dX11_mends_109
    · rw [if_neg h1] at hf
      refine gr_aload_n X dX11_mends_45 0 rfl rfl ?_
      refine gf11_7 X wf_RX11_57 dX11_mends_46 ?_
      refine gr_iload_n X dX11_mends_49 1 rfl rfl ?_
      refine gr_iload X dX11_mends_50 4 rfl ?_
      obtain ⟨M5, q6, hf⟩ := gz_bde hf
      refine gr_callV (asF := fun ad => [.ref (ad 58), .int x1, .int x4]) [.int x1, .int x4] X (c5_put gi_otherLine q6) rfl wm_RX11_344 rfl (X.kd (gk_X5o gi_otherLine)).1 ((X.kd (gk_X5o gi_otherLine)).2 _ _ _ _) rfl (by decide) (by decide) rfl (Nat.le_of_ble_eq_true rfl) hc dX11_mends_52 ?_
      refine gr_aload_n X dX11_mends_55 0 rfl rfl ?_
      refine gf11_8 X wf_RX11_61 dX11_mends_56 ?_
      refine gr_aload_n X dX11_mends_59 0 rfl rfl ?_
      refine gf11_4 X wf_RX11_40 dX11_mends_60 ?_
      refine gr_aload_n X dX11_mends_63 0 rfl rfl ?_
      refine gf11_7 X wf_RX11_57 dX11_mends_64 ?_
      obtain ⟨M7, q8, hf⟩ := gz_bde hf
      refine gr_callV (asF := fun ad => [.ref (ad (gz_cIx (M5.1 0 8))), .ref (ad 11), .ref (ad 58)]) [.ref (gx_ad x 11), .ref (gx_ad x 58)] X (c2_make (gi_cut _) gi_table gi_otherLine q8) rfl wm_RX11_230 rfl (X.kd (gk_X2o (gi_cut _))).1 ((X.kd (gk_X2o (gi_cut _))).2 _ _ _ _) rfl (by decide) (by decide) rfl (Nat.le_of_ble_eq_true rfl) hc dX11_mends_67 ?_
      refine gr_aload_n X dX11_mends_70 0 rfl rfl ?_
      refine gf11_8 X wf_RX11_61 dX11_mends_71 ?_
      obtain ⟨v9, M10, q11, hf⟩ := gz_bd2e hf
      refine gr_callI (asF := fun ad => [.ref (ad (gz_cIx (M7.1 0 8)))]) [] X (c2_stuckTokens (gi_cut _) q11) rfl wm_RX11_222 rfl (X.kd (gk_X2o (gi_cut _))).1 ((X.kd (gk_X2o (gi_cut _))).2 _ _ _ _) rfl (by decide) (by decide) rfl (Nat.le_of_ble_eq_true rfl) hc dX11_mends_74 ?_
      refine gr_istore [(5, .int v9), (0, .ref (gx_ad x 0)), (1, .int x1), (2, .int x2), (3, .int x3), (4, .int x4)] X dX11_mends_77 rfl (by decide) rfl ?_
      refine gr_iload X dX11_mends_79 0 rfl ?_
      refine gr_iload_n X dX11_mends_81 4 rfl rfl ?_
      refine gr_icmp_ge 91 X dX11_mends_82 (by decide) (fun h12 => ?_) (fun h12 => ?_)
      · rw [if_pos h12] at hf
        obtain ⟨v13, ev13, hf⟩ := gz_lte hf
        refine gr_iinc 1 [(4, .int v13), (5, .int v9), (0, .ref (gx_ad x 0)), (1, .int x1), (2, .int x2), (3, .int x3)] X dX11_mends_91 5 rfl (by decide) ev13 (by decide) rfl ?_
        refine gr_goto 38 X dX11_mends_94 (by decide) ?_
        refine gr_sub (lv' := [(0, .ref (gx_ad x 0)), (1, .int x1), (2, .int x2), (3, .int x3), (4, .int v13)]) [2, 3, 4, 5, 0] rfl ?_
        exact ih _ _ _ _ _ hf
      · rw [if_neg h12] at hf
        refine gr_iload X dX11_mends_85 5 rfl ?_
        refine gr_istore_n [(2, .int x4), (5, .int v9), (0, .ref (gx_ad x 0)), (1, .int x1), (3, .int x3), (4, .int x4)] X dX11_mends_87 rfl rfl (by decide) rfl ?_
        refine gr_iload X dX11_mends_88 1 rfl ?_
        refine gr_istore_n [(3, .int v9), (2, .int x4), (5, .int v9), (0, .ref (gx_ad x 0)), (1, .int x1), (4, .int x4)] X dX11_mends_90 rfl rfl (by decide) rfl ?_
        obtain ⟨v14, ev14, hf⟩ := gz_lte hf
        refine gr_iinc 1 [(4, .int v14), (3, .int v9), (2, .int x4), (5, .int v9), (0, .ref (gx_ad x 0)), (1, .int x1)] X dX11_mends_91 5 rfl (by decide) ev14 (by decide) rfl ?_
        refine gr_goto 38 X dX11_mends_94 (by decide) ?_
        refine gr_sub (lv' := [(0, .ref (gx_ad x 0)), (1, .int x1), (2, .int x4), (3, .int v9), (4, .int v14)]) [4, 5, 2, 1, 0] rfl ?_
        exact ih _ _ _ _ _ hf

def f11_mends (a0 : Int32) (M0 : gz_M) : Option (Int32 × gz_M) := gz_bd2 (f5_has (7 + 2) a0 M0) fun v1 M2 => if v1 = 0 then (some ((-1), M2)) else (gz_bd (f5_copy 58 (7 + 2) M2) fun M5 => f11_mends_38 gz_FU a0 0 25 0 M5)
set_option maxRecDepth 100000 in
theorem c11_mends {pf : Nat → Bool} {l : Launch} {r : Int32} {M0 M' : gz_M} {a0 : Int32} (hf : f11_mends a0 M0 = some (r, M')) : gz_CI l gz_cfC yX11_mends cX11_mends 6 5 .int (fun ad => [.ref (ad 0), .int a0]) pf M0 r M' := by
  refine gz_ofI (by decide +kernel) (fun _ => Nat.le_of_ble_eq_true rfl) (fun x X hc hE => ?_)
  show gz_At x 0 [(0, .ref (gx_ad x 0)), (1, .int a0)] [] M0
  unfold f11_mends at hf
  refine gr_aload_n X dX11_mends_0 0 rfl rfl ?_
  refine gf11_3 X wf_RX11_33 dX11_mends_1 ?_
  refine gf0_2 X (gk_X0o gi_now) wf_RX11_141 dX11_mends_4 ?_
  refine gr_iload_n X dX11_mends_7 1 rfl rfl ?_
  obtain ⟨v1, M2, q3, hf⟩ := gz_bd2e hf
  refine gr_callI (asF := fun ad => [.ref (ad (7 + 2)), .int a0]) [.int a0] X (c5_has (gi_X0line gi_now) q3) rfl wm_RX11_170 rfl (X.kd (gk_X5o (gi_X0line gi_now))).1 ((X.kd (gk_X5o (gi_X0line gi_now))).2 _ _ _ _) rfl (by decide) (by decide) rfl (Nat.le_of_ble_eq_true rfl) hc dX11_mends_8 ?_
  refine gr_if_ne 16 X dX11_mends_11 (by decide) (fun h4 => ?_) (fun h4 => ?_)
  · rw [if_pos h4] at hf
    refine gr_iconst (-1) X dX11_mends_14 (by decide) ?_
    exact gz_EIu hE hf rfl dX11_mends_15
  · rw [if_neg h4] at hf
    refine gr_iconst 0 X dX11_mends_16 (by decide) ?_
    refine gr_istore_n [(2, .int 0), (0, .ref (gx_ad x 0)), (1, .int a0)] X dX11_mends_17 rfl rfl (by decide) rfl ?_
    refine gr_bipush 25 X dX11_mends_18 (by decide) ?_
    refine gr_istore_n [(3, .int 25), (2, .int 0), (0, .ref (gx_ad x 0)), (1, .int a0)] X dX11_mends_20 rfl rfl (by decide) rfl ?_
    refine gr_aload_n X dX11_mends_21 2 rfl rfl ?_
    refine gf11_7 X wf_RX11_57 dX11_mends_22 ?_
    refine gr_aload_n X dX11_mends_25 2 rfl rfl ?_
    refine gf11_3 X wf_RX11_33 dX11_mends_26 ?_
    refine gf0_2 X (gk_X0o gi_now) wf_RX11_141 dX11_mends_29 ?_
    obtain ⟨M5, q6, hf⟩ := gz_bde hf
    refine gr_callV (asF := fun ad => [.ref (ad 58), .ref (ad (7 + 2))]) [.ref (gx_ad x (7 + 2))] X (c5_copy gi_otherLine (gi_X0line gi_now) q6) rfl wm_RX11_340 rfl (X.kd (gk_X5o gi_otherLine)).1 ((X.kd (gk_X5o gi_otherLine)).2 _ _ _ _) rfl (by decide) (by decide) rfl (Nat.le_of_ble_eq_true rfl) hc dX11_mends_32 ?_
    refine gr_iconst 0 X dX11_mends_35 (by decide) ?_
    refine gr_istore [(4, .int 0), (3, .int 25), (2, .int 0), (0, .ref (gx_ad x 0)), (1, .int a0)] X dX11_mends_36 rfl (by decide) rfl ?_
    refine gr_sub (lv' := [(0, .ref (gx_ad x 0)), (1, .int a0), (2, .int 0), (3, .int 25), (4, .int 0)]) [3, 4, 2, 1, 0] rfl ?_
    exact b11_mends_38 X hc hE _ _ _ _ _ _ hf

def f11_drawn (a0 : Int32) (a1 : Int32) (M0 : gz_M) : Option (Int32 × gz_M) := if a1 ≤ 0 then (some (0, M0)) else (gz_ck (!decide (a1 = 0)) <| some (gz_rem (gz_ushr a0 16) a1, M0))
set_option maxRecDepth 100000 in
theorem c11_drawn {pf : Nat → Bool} {l : Launch} {r : Int32} {M0 M' : gz_M} {a0 : Int32} {a1 : Int32} (hf : f11_drawn a0 a1 M0 = some (r, M')) : gz_CI l gz_cfC yX11_drawn cX11_drawn 2 1 .int (fun _ => [.int a0, .int a1]) pf M0 r M' := by
  refine gz_ofI (by decide +kernel) (fun _ => Nat.le_of_ble_eq_true rfl) (fun x X hc hE => ?_)
  show gz_At x 0 [(0, .int a0), (1, .int a1)] [] M0
  unfold f11_drawn at hf
  refine gr_iload_n X dX11_drawn_0 1 rfl rfl ?_
  refine gr_if_le 13 X dX11_drawn_1 (by decide) (fun h1 => ?_) (fun h1 => ?_)
  · rw [if_pos h1] at hf
    refine gr_iconst 0 X dX11_drawn_13 (by decide) ?_
    exact gz_EIu hE hf rfl dX11_drawn_14
  · rw [if_neg h1] at hf
    refine gr_iload_n X dX11_drawn_4 0 rfl rfl ?_
    refine gr_bipush 16 X dX11_drawn_5 (by decide) ?_
    refine gr_iushr X dX11_drawn_7 ?_
    refine gr_iload_n X dX11_drawn_8 1 rfl rfl ?_
    obtain ⟨h2, hf⟩ := gz_cke hf
    refine gr_irem X dX11_drawn_9 (gz_nei h2) ?_
    refine gr_goto 14 X dX11_drawn_10 (by decide) ?_
    exact gz_EIu hE hf rfl dX11_drawn_14

def f11_nextOf (a0 : Int32) (M0 : gz_M) : Option (Int32 × gz_M) := some ((a0 * 1103515245) + 12345, M0)
set_option maxRecDepth 100000 in
theorem c11_nextOf {pf : Nat → Bool} {l : Launch} {r : Int32} {M0 M' : gz_M} {a0 : Int32} (hf : f11_nextOf a0 M0 = some (r, M')) : gz_CI l gz_cfC yX11_nextOf cX11_nextOf 1 1 .int (fun _ => [.int a0]) pf M0 r M' := by
  refine gz_ofI (by decide +kernel) (fun _ => Nat.le_of_ble_eq_true rfl) (fun x X hc hE => ?_)
  show gz_At x 0 [(0, .int a0)] [] M0
  unfold f11_nextOf at hf
  refine gr_iload_n X dX11_nextOf_0 0 rfl rfl ?_
  refine gr_ldc_w 1103515245 X dX11_nextOf_1 wk_RX11_404 ?_
  refine gr_imul X dX11_nextOf_4 ?_
  refine gr_sipush 12345 X dX11_nextOf_5 (by decide) ?_
  refine gr_iadd X dX11_nextOf_8 ?_
  exact gz_EIu hE hf rfl dX11_nextOf_9

def f11_years_85 (c32 : Int32 → Int32 → Int32 → gz_M → Option (Int32 × gz_M)) (x2 : Int32) (x3 : Int32) (x4 : Int32) (x5 : Int32) (x6 : Int32) (x7 : Int32) (M0 : gz_M) : Option (Int32 × gz_M) := gz_bd (f5_change 58 x5 x6 x7 M0) fun M1 => gz_lt (x4 + 1) fun v3 => c32 x2 x3 v3 M1
theorem b11_years_85 {x : gz_X} {pf : Nat → Bool} {l : Launch} {r : Int32} {M' : gz_M} (X : gz_Ok x cX11_years RX11 8 5 gz_cfC pf l) (hc : gx_cells x ≤ (gx_R x).cells ∧ gx_slots x ≤ (gx_R x).slots) (hE : gz_EI x cX11_years .int r M') {c32 : Int32 → Int32 → Int32 → gz_M → Option (Int32 × gz_M)} (hc32 : ∀ (x2 : Int32) (x3 : Int32) (x4 : Int32) (M0 : gz_M), c32 x2 x3 x4 M0 = some (r, M') → gz_At x 32 [(0, .ref (gx_ad x 0)), (2, .int x2), (3, .int x3), (4, .int x4)] [] M0) : ∀ (x2 : Int32) (x3 : Int32) (x4 : Int32) (x5 : Int32) (x6 : Int32) (x7 : Int32) (M0 : gz_M), f11_years_85 c32 x2 x3 x4 x5 x6 x7 M0 = some (r, M') → gz_At x 85 [(0, .ref (gx_ad x 0)), (2, .int x2), (3, .int x3), (4, .int x4), (5, .int x5), (6, .int x6), (7, .int x7)] [] M0 := by
  intro x2 x3 x4 x5 x6 x7 M0  hf
  rw [f11_years_85] at hf
  refine gr_aload_n X dX11_years_85 0 rfl rfl ?_
  refine gf11_7 X wf_RX11_57 dX11_years_86 ?_
  refine gr_iload X dX11_years_89 4 rfl ?_
  refine gr_iload X dX11_years_91 5 rfl ?_
  refine gr_iload X dX11_years_93 6 rfl ?_
  obtain ⟨M1, q2, hf⟩ := gz_bde hf
  refine gr_callV (asF := fun ad => [.ref (ad 58), .int x5, .int x6, .int x7]) [.int x5, .int x6, .int x7] X (c5_change gi_otherLine q2) rfl wm_RX11_364 rfl (X.kd (gk_X5o gi_otherLine)).1 ((X.kd (gk_X5o gi_otherLine)).2 _ _ _ _) rfl (by decide) (by decide) rfl (Nat.le_of_ble_eq_true rfl) hc dX11_years_95 ?_
  obtain ⟨v3, ev3, hf⟩ := gz_lte hf
  refine gr_iinc 1 [(4, .int v3), (0, .ref (gx_ad x 0)), (2, .int x2), (3, .int x3), (5, .int x5), (6, .int x6), (7, .int x7)] X dX11_years_98 3 rfl (by decide) ev3 (by decide) rfl ?_
  refine gr_goto 32 X dX11_years_101 (by decide) ?_
  refine gr_sub (lv' := [(0, .ref (gx_ad x 0)), (2, .int x2), (3, .int x3), (4, .int v3)]) [1, 2, 3, 0] rfl ?_
  exact hc32 _ _ _ _ hf

def f11_years_32 : Nat → Int32 → Int32 → Int32 → gz_M → Option (Int32 × gz_M)
  | 0, _, _, _, _ => none
  | n + 1, x2, x3, x4, M0 => if x2 ≤ x4 then (gz_bd (f2_make (gz_cIx (M0.1 0 8)) 11 58 M0) fun M2 => gz_bd (f6_remember 11 58 (gz_cIx (M2.1 0 8)) M2) fun M4 => gz_lt (gz_w M4 0 15 0) fun M6 => gz_bd2 (f2_stuckTokens (gz_cIx (M6.1 0 8)) M6) fun v7 M8 => gz_bd (f11_tell (v7.toInt64) M8) fun M10 => gz_bd (f11_tell ((M10.1 58 1).toInt64) M10) fun M12 => gz_bd (f11_tell ((M12.1 69 4).toInt64) M12) fun M14 => some (M14.1 (gz_cIx (M14.1 0 8)) 0, M14)) else (gz_bd2 (f11_nextOf x3 M0) fun v16 M17 => gz_bd2 (f11_drawn v16 3 M17) fun v19 M20 => gz_bd2 (f11_nextOf v16 M20) fun v22 M23 => gz_bd2 (f11_drawn v22 24 M23) fun v25 M26 => if v19 = 2 then (f11_years_85 (f11_years_32 n) x2 v22 x4 v19 v25 0 M26) else (gz_bd2 (f11_nextOf v22 M26) fun v29 M30 => gz_bd2 (f11_drawn v29 8 M30) fun v32 M33 => f11_years_85 (f11_years_32 n) x2 v29 x4 v19 v25 v32 M33))
theorem b11_years_32 {x : gz_X} {pf : Nat → Bool} {l : Launch} {r : Int32} {M' : gz_M} (X : gz_Ok x cX11_years RX11 8 5 gz_cfC pf l) (hc : gx_cells x ≤ (gx_R x).cells ∧ gx_slots x ≤ (gx_R x).slots) (hE : gz_EI x cX11_years .int r M') : ∀ (n : Nat) (x2 : Int32) (x3 : Int32) (x4 : Int32) (M0 : gz_M), f11_years_32 n x2 x3 x4 M0 = some (r, M') → gz_At x 32 [(0, .ref (gx_ad x 0)), (2, .int x2), (3, .int x3), (4, .int x4)] [] M0 := by
  intro n
  induction n with
  | zero =>
    intro x2 x3 x4 M0  hf
    rw [f11_years_32] at hf
    cases hf
  | succ n ih =>
    intro x2 x3 x4 M0  hf
    rw [f11_years_32] at hf
    refine gr_iload X dX11_years_32 3 rfl ?_
    refine gr_iload_n X dX11_years_34 1 rfl rfl ?_
    refine gr_icmp_ge 104 X dX11_years_35 (by decide) (fun h1 => ?_) (fun h1 => ?_)
    · rw [if_pos h1] at hf
      refine gr_aload_n X dX11_years_104 0 rfl rfl ?_
      refine gf11_8 X wf_RX11_61 dX11_years_105 ?_
      refine gr_aload_n X dX11_years_108 0 rfl rfl ?_
      refine gf11_4 X wf_RX11_40 dX11_years_109 ?_
      refine gr_aload_n X dX11_years_112 0 rfl rfl ?_
      refine gf11_7 X wf_RX11_57 dX11_years_113 ?_
      obtain ⟨M2, q3, hf⟩ := gz_bde hf
      refine gr_callV (asF := fun ad => [.ref (ad (gz_cIx (M0.1 0 8))), .ref (ad 11), .ref (ad 58)]) [.ref (gx_ad x 11), .ref (gx_ad x 58)] X (c2_make (gi_cut _) gi_table gi_otherLine q3) rfl wm_RX11_230 rfl (X.kd (gk_X2o (gi_cut _))).1 ((X.kd (gk_X2o (gi_cut _))).2 _ _ _ _) rfl (by decide) (by decide) rfl (Nat.le_of_ble_eq_true rfl) hc dX11_years_116 ?_
      refine gr_aload_n X dX11_years_119 0 rfl rfl ?_
      refine gf11_9 X wf_RX11_67 dX11_years_120 ?_
      refine gr_aload_n X dX11_years_123 0 rfl rfl ?_
      refine gf11_4 X wf_RX11_40 dX11_years_124 ?_
      refine gr_aload_n X dX11_years_127 0 rfl rfl ?_
      refine gf11_7 X wf_RX11_57 dX11_years_128 ?_
      refine gr_aload_n X dX11_years_131 0 rfl rfl ?_
      refine gf11_8 X wf_RX11_61 dX11_years_132 ?_
      obtain ⟨M4, q5, hf⟩ := gz_bde hf
      refine gr_callV (asF := fun ad => [.ref (ad 69), .ref (ad 11), .ref (ad 58), .ref (ad (gz_cIx (M2.1 0 8)))]) [.ref (gx_ad x 11), .ref (gx_ad x 58), .ref (gx_ad x (gz_cIx (M2.1 0 8)))] X (c6_remember gi_table gi_otherLine (gi_cut _) q5) rfl wm_RX11_244 rfl (X.kd gk_C69).1 ((X.kd gk_C69).2 _ _ _ _) rfl (by decide) (by decide) rfl (Nat.le_of_ble_eq_true rfl) hc dX11_years_135 ?_
      refine gr_aload_n X dX11_years_138 0 rfl rfl ?_
      refine gr_iconst 0 X dX11_years_139 (by decide) ?_
      obtain ⟨M6, eM6, hf⟩ := gz_lte hf
      refine gp11_15 X wf_RX11_100 eM6 dX11_years_140 ?_
      refine gr_aload_n X dX11_years_143 0 rfl rfl ?_
      refine gr_aload_n X dX11_years_144 0 rfl rfl ?_
      refine gf11_8 X wf_RX11_61 dX11_years_145 ?_
      obtain ⟨v7, M8, q9, hf⟩ := gz_bd2e hf
      refine gr_callI (asF := fun ad => [.ref (ad (gz_cIx (M6.1 0 8)))]) [] X (c2_stuckTokens (gi_cut _) q9) rfl wm_RX11_222 rfl (X.kd (gk_X2o (gi_cut _))).1 ((X.kd (gk_X2o (gi_cut _))).2 _ _ _ _) rfl (by decide) (by decide) rfl (Nat.le_of_ble_eq_true rfl) hc dX11_years_148 ?_
      refine gr_i2l X dX11_years_151 ?_
      obtain ⟨M10, q11, hf⟩ := gz_bde hf
      refine gr_callV (asF := fun ad => [.ref (ad 0), .long (v7.toInt64)]) [.long (v7.toInt64)] X (c11_tell q11) rfl wm_RX11_196 rfl (X.kd gk_C0).1 ((X.kd gk_C0).2 _ _ _ _) rfl (by decide) (by decide) rfl (Nat.le_of_ble_eq_true rfl) hc dX11_years_152 ?_
      refine gr_aload_n X dX11_years_155 0 rfl rfl ?_
      refine gr_aload_n X dX11_years_156 0 rfl rfl ?_
      refine gf11_7 X wf_RX11_57 dX11_years_157 ?_
      refine gf5_1 X (gk_X5o gi_otherLine) wf_RX11_150 dX11_years_160 ?_
      refine gr_i2l X dX11_years_163 ?_
      obtain ⟨M12, q13, hf⟩ := gz_bde hf
      refine gr_callV (asF := fun ad => [.ref (ad 0), .long ((M10.1 58 1).toInt64)]) [.long ((M10.1 58 1).toInt64)] X (c11_tell q13) rfl wm_RX11_196 rfl (X.kd gk_C0).1 ((X.kd gk_C0).2 _ _ _ _) rfl (by decide) (by decide) rfl (Nat.le_of_ble_eq_true rfl) hc dX11_years_164 ?_
      refine gr_aload_n X dX11_years_167 0 rfl rfl ?_
      refine gr_aload_n X dX11_years_168 0 rfl rfl ?_
      refine gf11_9 X wf_RX11_67 dX11_years_169 ?_
      refine gf6_4 X wf_RX11_248 dX11_years_172 ?_
      refine gr_i2l X dX11_years_175 ?_
      obtain ⟨M14, q15, hf⟩ := gz_bde hf
      refine gr_callV (asF := fun ad => [.ref (ad 0), .long ((M12.1 69 4).toInt64)]) [.long ((M12.1 69 4).toInt64)] X (c11_tell q15) rfl wm_RX11_196 rfl (X.kd gk_C0).1 ((X.kd gk_C0).2 _ _ _ _) rfl (by decide) (by decide) rfl (Nat.le_of_ble_eq_true rfl) hc dX11_years_176 ?_
      refine gr_aload_n X dX11_years_179 0 rfl rfl ?_
      refine gf11_8 X wf_RX11_61 dX11_years_180 ?_
      refine gf2_0 X (gk_X2o (gi_cut _)) wf_RX11_190 dX11_years_183 ?_
      exact gz_EIu hE hf rfl dX11_years_186
    · rw [if_neg h1] at hf
      refine gr_iload_n X dX11_years_38 2 rfl rfl ?_
      obtain ⟨v16, M17, q18, hf⟩ := gz_bd2e hf
      refine gr_callSI (asF := fun _ => [.int x3]) [.int x3] X (c11_nextOf q18) rfl wm_RX11_358 rfl (by decide) (by decide) rfl (Nat.le_of_ble_eq_true rfl) hc dX11_years_39 ?_
      refine gr_istore_n [(3, .int v16), (0, .ref (gx_ad x 0)), (2, .int x2), (4, .int x4)] X dX11_years_42 rfl rfl (by decide) rfl ?_
      refine gr_iload_n X dX11_years_43 0 rfl rfl ?_
      refine gr_iconst 3 X dX11_years_44 (by decide) ?_
      obtain ⟨v19, M20, q21, hf⟩ := gz_bd2e hf
      refine gr_callSI (asF := fun _ => [.int v16, .int 3]) [.int v16, .int 3] X (c11_drawn q21) rfl wm_RX11_361 rfl (by decide) (by decide) rfl (Nat.le_of_ble_eq_true rfl) hc dX11_years_45 ?_
      refine gr_istore [(5, .int v19), (3, .int v16), (0, .ref (gx_ad x 0)), (2, .int x2), (4, .int x4)] X dX11_years_48 rfl (by decide) rfl ?_
      refine gr_iload_n X dX11_years_50 1 rfl rfl ?_
      obtain ⟨v22, M23, q24, hf⟩ := gz_bd2e hf
      refine gr_callSI (asF := fun _ => [.int v16]) [.int v16] X (c11_nextOf q24) rfl wm_RX11_358 rfl (by decide) (by decide) rfl (Nat.le_of_ble_eq_true rfl) hc dX11_years_51 ?_
      refine gr_istore_n [(3, .int v22), (5, .int v19), (0, .ref (gx_ad x 0)), (2, .int x2), (4, .int x4)] X dX11_years_54 rfl rfl (by decide) rfl ?_
      refine gr_iload_n X dX11_years_55 0 rfl rfl ?_
      refine gr_bipush 24 X dX11_years_56 (by decide) ?_
      obtain ⟨v25, M26, q27, hf⟩ := gz_bd2e hf
      refine gr_callSI (asF := fun _ => [.int v22, .int 24]) [.int v22, .int 24] X (c11_drawn q27) rfl wm_RX11_361 rfl (by decide) (by decide) rfl (Nat.le_of_ble_eq_true rfl) hc dX11_years_58 ?_
      refine gr_istore [(6, .int v25), (3, .int v22), (5, .int v19), (0, .ref (gx_ad x 0)), (2, .int x2), (4, .int x4)] X dX11_years_61 rfl (by decide) rfl ?_
      refine gr_iconst 0 X dX11_years_63 (by decide) ?_
      refine gr_istore [(7, .int 0), (6, .int v25), (3, .int v22), (5, .int v19), (0, .ref (gx_ad x 0)), (2, .int x2), (4, .int x4)] X dX11_years_64 rfl (by decide) rfl ?_
      refine gr_iload X dX11_years_66 3 rfl ?_
      refine gr_iconst 2 X dX11_years_68 (by decide) ?_
      refine gr_icmp_eq 85 X dX11_years_69 (by decide) (fun h28 => ?_) (fun h28 => ?_)
      · rw [if_pos h28] at hf
        refine gr_sub (lv' := [(0, .ref (gx_ad x 0)), (2, .int x2), (3, .int v22), (4, .int x4), (5, .int v19), (6, .int v25), (7, .int 0)]) [4, 5, 2, 6, 3, 1, 0] rfl ?_
        exact b11_years_85 X hc hE ih _ _ _ _ _ _ _ hf
      · rw [if_neg h28] at hf
        refine gr_iload_n X dX11_years_72 2 rfl rfl ?_
        obtain ⟨v29, M30, q31, hf⟩ := gz_bd2e hf
        refine gr_callSI (asF := fun _ => [.int v22]) [.int v22] X (c11_nextOf q31) rfl wm_RX11_358 rfl (by decide) (by decide) rfl (Nat.le_of_ble_eq_true rfl) hc dX11_years_73 ?_
        refine gr_istore_n [(3, .int v29), (7, .int 0), (6, .int v25), (5, .int v19), (0, .ref (gx_ad x 0)), (2, .int x2), (4, .int x4)] X dX11_years_76 rfl rfl (by decide) rfl ?_
        refine gr_iload_n X dX11_years_77 0 rfl rfl ?_
        refine gr_bipush 8 X dX11_years_78 (by decide) ?_
        obtain ⟨v32, M33, q34, hf⟩ := gz_bd2e hf
        refine gr_callSI (asF := fun _ => [.int v29, .int 8]) [.int v29, .int 8] X (c11_drawn q34) rfl wm_RX11_361 rfl (by decide) (by decide) rfl (Nat.le_of_ble_eq_true rfl) hc dX11_years_80 ?_
        refine gr_istore [(7, .int v32), (3, .int v29), (6, .int v25), (5, .int v19), (0, .ref (gx_ad x 0)), (2, .int x2), (4, .int x4)] X dX11_years_83 rfl (by decide) rfl ?_
        refine gr_sub (lv' := [(0, .ref (gx_ad x 0)), (2, .int x2), (3, .int v29), (4, .int x4), (5, .int v19), (6, .int v25), (7, .int v32)]) [4, 5, 1, 6, 3, 2, 0] rfl ?_
        exact b11_years_85 X hc hE ih _ _ _ _ _ _ _ hf

def f11_years (a0 : Int32) (a1 : Int32) (M0 : gz_M) : Option (Int32 × gz_M) := if a1 < 1 then (some ((-1), M0)) else (if a1 ≤ 20 then (gz_bd (f5_copy 58 (7 + 2) M0) fun M3 => f11_years_32 gz_FU a1 a0 0 M3) else (some ((-1), M0)))
set_option maxRecDepth 100000 in
theorem c11_years {pf : Nat → Bool} {l : Launch} {r : Int32} {M0 M' : gz_M} {a0 : Int32} {a1 : Int32} (hf : f11_years a0 a1 M0 = some (r, M')) : gz_CI l gz_cfC yX11_years cX11_years 8 5 .int (fun ad => [.ref (ad 0), .int a0, .int a1]) pf M0 r M' := by
  refine gz_ofI (by decide +kernel) (fun _ => Nat.le_of_ble_eq_true rfl) (fun x X hc hE => ?_)
  show gz_At x 0 [(0, .ref (gx_ad x 0)), (1, .int a0), (2, .int a1)] [] M0
  unfold f11_years at hf
  refine gr_iload_n X dX11_years_0 2 rfl rfl ?_
  refine gr_iconst 1 X dX11_years_1 (by decide) ?_
  refine gr_icmp_lt 11 X dX11_years_2 (by decide) (fun h1 => ?_) (fun h1 => ?_)
  · rw [if_pos h1] at hf
    refine gr_iconst (-1) X dX11_years_11 (by decide) ?_
    exact gz_EIu hE hf rfl dX11_years_12
  · rw [if_neg h1] at hf
    refine gr_iload_n X dX11_years_5 2 rfl rfl ?_
    refine gr_bipush 20 X dX11_years_6 (by decide) ?_
    refine gr_icmp_le 13 X dX11_years_8 (by decide) (fun h2 => ?_) (fun h2 => ?_)
    · rw [if_pos h2] at hf
      refine gr_aload_n X dX11_years_13 0 rfl rfl ?_
      refine gf11_7 X wf_RX11_57 dX11_years_14 ?_
      refine gr_aload_n X dX11_years_17 0 rfl rfl ?_
      refine gf11_3 X wf_RX11_33 dX11_years_18 ?_
      refine gf0_2 X (gk_X0o gi_now) wf_RX11_141 dX11_years_21 ?_
      obtain ⟨M3, q4, hf⟩ := gz_bde hf
      refine gr_callV (asF := fun ad => [.ref (ad 58), .ref (ad (7 + 2))]) [.ref (gx_ad x (7 + 2))] X (c5_copy gi_otherLine (gi_X0line gi_now) q4) rfl wm_RX11_340 rfl (X.kd (gk_X5o gi_otherLine)).1 ((X.kd (gk_X5o gi_otherLine)).2 _ _ _ _) rfl (by decide) (by decide) rfl (Nat.le_of_ble_eq_true rfl) hc dX11_years_24 ?_
      refine gr_iload_n X dX11_years_27 1 rfl rfl ?_
      refine gr_istore_n [(3, .int a0), (0, .ref (gx_ad x 0)), (1, .int a0), (2, .int a1)] X dX11_years_28 rfl rfl (by decide) rfl ?_
      refine gr_iconst 0 X dX11_years_29 (by decide) ?_
      refine gr_istore [(4, .int 0), (3, .int a0), (0, .ref (gx_ad x 0)), (1, .int a0), (2, .int a1)] X dX11_years_30 rfl (by decide) rfl ?_
      refine gr_sub (lv' := [(0, .ref (gx_ad x 0)), (2, .int a1), (3, .int a0), (4, .int 0)]) [2, 4, 1, 0] rfl ?_
      exact b11_years_32 X hc hE _ _ _ _ _ hf
    · rw [if_neg h2] at hf
      refine gr_iconst (-1) X dX11_years_11 (by decide) ?_
      exact gz_EIu hE hf rfl dX11_years_12

def f11_count (a0 : Int32) (M0 : gz_M) : Option (Int32 × gz_M) := if a0.toInt < 0 ∨ 8 < a0.toInt then (some ((-1), M0)) else if a0 = 0 then (some (M0.1 11 0, M0)) else if a0 = 1 then (some (M0.1 (7 + 2) 1, M0)) else if a0 = 2 then (some (M0.1 (gz_cIx (M0.1 0 5)) 0, M0)) else if a0 = 3 then (some (M0.1 131 2, M0)) else if a0 = 4 then (some (M0.1 0 15, M0)) else if a0 = 5 then (some (M0.1 1 1, M0)) else if a0 = 6 then (some (M0.1 (gz_cIx (M0.1 0 5)) 1, M0)) else if a0 = 7 then (gz_bd2 (f7_lettersOfAll 11 M0) fun v10 M11 => some (v10, M11)) else if a0 = 8 then (gz_bd2 (f7_modesWithRules 11 M0) fun v14 M15 => some (v14, M15)) else none
set_option maxRecDepth 100000 in
theorem c11_count {pf : Nat → Bool} {l : Launch} {r : Int32} {M0 M' : gz_M} {a0 : Int32} (hf : f11_count a0 M0 = some (r, M')) : gz_CI l gz_cfC yX11_count cX11_count 2 2 .int (fun ad => [.ref (ad 0), .int a0]) pf M0 r M' := by
  refine gz_ofI (by decide +kernel) (fun _ => Nat.le_of_ble_eq_true rfl) (fun x X hc hE => ?_)
  show gz_At x 0 [(0, .ref (gx_ad x 0)), (1, .int a0)] [] M0
  unfold f11_count at hf
  refine gr_iload_n X dX11_count_0 1 rfl rfl ?_
  by_cases h1 : a0.toInt < 0 ∨ 8 < a0.toInt
  · rw [if_pos h1] at hf
    refine gr_tsOut 124 X dX11_count_1 h1 (by decide) ?_
    refine gr_iconst (-1) X dX11_count_124 (by decide) ?_
    exact gz_EIu hE hf rfl dX11_count_125
  rw [if_neg h1] at hf
  by_cases h2 : a0 = 0
  · rw [if_pos h2] at hf
    refine gr_tsIn 0 51 52 X dX11_count_1 h2 (by decide) (by decide) (by decide) (by decide) ?_
    refine gr_aload_n X dX11_count_52 0 rfl rfl ?_
    refine gf11_4 X wf_RX11_40 dX11_count_53 ?_
    refine gf7_0 X (gk_X7o gi_table) wf_RX11_135 dX11_count_56 ?_
    exact gz_EIu hE hf rfl dX11_count_59
  rw [if_neg h2] at hf
  by_cases h3 : a0 = 1
  · rw [if_pos h3] at hf
    refine gr_tsIn 1 59 60 X dX11_count_1 h3 (by decide) (by decide) (by decide) (by decide) ?_
    refine gr_aload_n X dX11_count_60 0 rfl rfl ?_
    refine gf11_3 X wf_RX11_33 dX11_count_61 ?_
    refine gf0_2 X (gk_X0o gi_now) wf_RX11_141 dX11_count_64 ?_
    refine gf5_1 X (gk_X5o (gi_X0line gi_now)) wf_RX11_150 dX11_count_67 ?_
    exact gz_EIu hE hf rfl dX11_count_70
  rw [if_neg h3] at hf
  by_cases h4 : a0 = 2
  · rw [if_pos h4] at hf
    refine gr_tsIn 2 70 71 X dX11_count_1 h4 (by decide) (by decide) (by decide) (by decide) ?_
    refine gr_aload_n X dX11_count_71 0 rfl rfl ?_
    refine gf11_5 X wf_RX11_47 dX11_count_72 ?_
    refine gf2_0 X (gk_X2o (gi_cut _)) wf_RX11_190 dX11_count_75 ?_
    exact gz_EIu hE hf rfl dX11_count_78
  rw [if_neg h4] at hf
  by_cases h5 : a0 = 3
  · rw [if_pos h5] at hf
    refine gr_tsIn 3 78 79 X dX11_count_1 h5 (by decide) (by decide) (by decide) (by decide) ?_
    refine gr_aload_n X dX11_count_79 0 rfl rfl ?_
    refine gf11_12 X wf_RX11_88 dX11_count_80 ?_
    refine gf4_2 X wf_RX11_357 dX11_count_83 ?_
    exact gz_EIu hE hf rfl dX11_count_86
  rw [if_neg h5] at hf
  by_cases h6 : a0 = 4
  · rw [if_pos h6] at hf
    refine gr_tsIn 4 86 87 X dX11_count_1 h6 (by decide) (by decide) (by decide) (by decide) ?_
    refine gr_aload_n X dX11_count_87 0 rfl rfl ?_
    refine gf11_15 X wf_RX11_100 dX11_count_88 ?_
    exact gz_EIu hE hf rfl dX11_count_91
  rw [if_neg h6] at hf
  by_cases h7 : a0 = 5
  · rw [if_pos h7] at hf
    refine gr_tsIn 5 91 92 X dX11_count_1 h7 (by decide) (by decide) (by decide) (by decide) ?_
    refine gr_aload_n X dX11_count_92 0 rfl rfl ?_
    refine gf11_0 X wf_RX11_12 dX11_count_93 ?_
    refine gf10_1 X wf_RX11_108 dX11_count_96 ?_
    exact gz_EIu hE hf rfl dX11_count_99
  rw [if_neg h7] at hf
  by_cases h8 : a0 = 6
  · rw [if_pos h8] at hf
    refine gr_tsIn 6 99 100 X dX11_count_1 h8 (by decide) (by decide) (by decide) (by decide) ?_
    refine gr_aload_n X dX11_count_100 0 rfl rfl ?_
    refine gf11_5 X wf_RX11_47 dX11_count_101 ?_
    refine gf2_1 X (gk_X2o (gi_cut _)) wf_RX11_372 dX11_count_104 ?_
    exact gz_EIu hE hf rfl dX11_count_107
  rw [if_neg h8] at hf
  by_cases h9 : a0 = 7
  · rw [if_pos h9] at hf
    refine gr_tsIn 7 107 108 X dX11_count_1 h9 (by decide) (by decide) (by decide) (by decide) ?_
    refine gr_aload_n X dX11_count_108 0 rfl rfl ?_
    refine gf11_4 X wf_RX11_40 dX11_count_109 ?_
    obtain ⟨v10, M11, q12, hf⟩ := gz_bd2e hf
    refine gr_callI (asF := fun ad => [.ref (ad 11)]) [] X (c7_lettersOfAll gi_table q12) rfl wm_RX11_375 rfl (X.kd (gk_X7o gi_table)).1 ((X.kd (gk_X7o gi_table)).2 _ _ _ _) rfl (by decide) (by decide) rfl (Nat.le_of_ble_eq_true rfl) hc dX11_count_112 ?_
    exact gz_EIu hE hf rfl dX11_count_115
  rw [if_neg h9] at hf
  by_cases h13 : a0 = 8
  · rw [if_pos h13] at hf
    refine gr_tsIn 8 115 116 X dX11_count_1 h13 (by decide) (by decide) (by decide) (by decide) ?_
    refine gr_aload_n X dX11_count_116 0 rfl rfl ?_
    refine gf11_4 X wf_RX11_40 dX11_count_117 ?_
    obtain ⟨v14, M15, q16, hf⟩ := gz_bd2e hf
    refine gr_callI (asF := fun ad => [.ref (ad 11)]) [] X (c7_modesWithRules gi_table q16) rfl wm_RX11_378 rfl (X.kd (gk_X7o gi_table)).1 ((X.kd (gk_X7o gi_table)).2 _ _ _ _) rfl (by decide) (by decide) rfl (Nat.le_of_ble_eq_true rfl) hc dX11_count_120 ?_
    exact gz_EIu hE hf rfl dX11_count_123
  rw [if_neg h13] at hf
  cases hf

def f11_refresh (M0 : gz_M) : Option (gz_M) := gz_bd (f1_build 11 7 M0) fun M1 => gz_bd (f11_recut M1) fun M3 => some M3
set_option maxRecDepth 100000 in
theorem c11_refresh {pf : Nat → Bool} {l : Launch} {M0 M' : gz_M} (hf : f11_refresh M0 = some M') : gz_CV l gz_cfC yX11_refresh cX11_refresh 1 6 (fun ad => [.ref (ad 0)]) pf M0 M' := by
  refine gz_ofV (by decide +kernel) (fun _ => Nat.le_of_ble_eq_true rfl) (fun x X hc hE => ?_)
  show gz_At x 0 [(0, .ref (gx_ad x 0))] [] M0
  unfold f11_refresh at hf
  refine gr_aload_n X dX11_refresh_0 0 rfl rfl ?_
  refine gf11_2 X wf_RX11_26 dX11_refresh_1 ?_
  refine gr_aload_n X dX11_refresh_4 0 rfl rfl ?_
  refine gf11_4 X wf_RX11_40 dX11_refresh_5 ?_
  refine gr_aload_n X dX11_refresh_8 0 rfl rfl ?_
  refine gf11_3 X wf_RX11_33 dX11_refresh_9 ?_
  obtain ⟨M1, q2, hf⟩ := gz_bde hf
  refine gr_callV (asF := fun ad => [.ref (ad 4), .ref (ad 11), .ref (ad 7)]) [.ref (gx_ad x 11), .ref (gx_ad x 7)] X (c1_build gi_table gi_now q2) rfl wm_RX11_226 rfl (X.kd gk_C4).1 ((X.kd gk_C4).2 _ _ _ _) rfl (by decide) (by decide) rfl (Nat.le_of_ble_eq_true rfl) hc dX11_refresh_12 ?_
  refine gr_aload_n X dX11_refresh_15 0 rfl rfl ?_
  obtain ⟨M3, q4, hf⟩ := gz_bde hf
  refine gr_callV (asF := fun ad => [.ref (ad 0)]) [] X (c11_recut q4) rfl wm_RX11_147 rfl (X.kd gk_C0).1 ((X.kd gk_C0).2 _ _ _ _) rfl (by decide) (by decide) rfl (Nat.le_of_ble_eq_true rfl) hc dX11_refresh_16 ?_
  exact gz_EVu hE hf dX11_refresh_19

def f11_tellChange_159 (x5 : Int32) (x6 : Int32) (x7 : Int32) (M0 : gz_M) : Option (gz_M) := gz_lt (gz_w M0 0 15 0) fun M1 => gz_bd (f11_tell (x5.toInt64) M1) fun M2 => gz_bd (f11_tell (x6.toInt64) M2) fun M4 => gz_bd (f11_tell (x7.toInt64) M4) fun M6 => some M6
theorem b11_tellChange_159 {x : gz_X} {pf : Nat → Bool} {l : Launch} {M' : gz_M} (X : gz_Ok x cX11_tellChange RX11 13 3 gz_cfC pf l) (hc : gx_cells x ≤ (gx_R x).cells ∧ gx_slots x ≤ (gx_R x).slots) (hE : gz_EV x cX11_tellChange M') : ∀ (x5 : Int32) (x6 : Int32) (x7 : Int32) (M0 : gz_M), f11_tellChange_159 x5 x6 x7 M0 = some M' → gz_At x 159 [(0, .ref (gx_ad x 0)), (5, .int x5), (6, .int x6), (7, .int x7)] [] M0 := by
  intro x5 x6 x7 M0  hf
  rw [f11_tellChange_159] at hf
  refine gr_aload_n X dX11_tellChange_159 0 rfl rfl ?_
  refine gr_iconst 0 X dX11_tellChange_160 (by decide) ?_
  obtain ⟨M1, eM1, hf⟩ := gz_lte hf
  refine gp11_15 X wf_RX11_100 eM1 dX11_tellChange_161 ?_
  refine gr_aload_n X dX11_tellChange_164 0 rfl rfl ?_
  refine gr_iload X dX11_tellChange_165 1 rfl ?_
  refine gr_i2l X dX11_tellChange_167 ?_
  obtain ⟨M2, q3, hf⟩ := gz_bde hf
  refine gr_callV (asF := fun ad => [.ref (ad 0), .long (x5.toInt64)]) [.long (x5.toInt64)] X (c11_tell q3) rfl wm_RX11_196 rfl (X.kd gk_C0).1 ((X.kd gk_C0).2 _ _ _ _) rfl (by decide) (by decide) rfl (Nat.le_of_ble_eq_true rfl) hc dX11_tellChange_168 ?_
  refine gr_aload_n X dX11_tellChange_171 0 rfl rfl ?_
  refine gr_iload X dX11_tellChange_172 2 rfl ?_
  refine gr_i2l X dX11_tellChange_174 ?_
  obtain ⟨M4, q5, hf⟩ := gz_bde hf
  refine gr_callV (asF := fun ad => [.ref (ad 0), .long (x6.toInt64)]) [.long (x6.toInt64)] X (c11_tell q5) rfl wm_RX11_196 rfl (X.kd gk_C0).1 ((X.kd gk_C0).2 _ _ _ _) rfl (by decide) (by decide) rfl (Nat.le_of_ble_eq_true rfl) hc dX11_tellChange_175 ?_
  refine gr_aload_n X dX11_tellChange_178 0 rfl rfl ?_
  refine gr_iload X dX11_tellChange_179 3 rfl ?_
  refine gr_i2l X dX11_tellChange_181 ?_
  obtain ⟨M6, q7, hf⟩ := gz_bde hf
  refine gr_callV (asF := fun ad => [.ref (ad 0), .long (x7.toInt64)]) [.long (x7.toInt64)] X (c11_tell q7) rfl wm_RX11_196 rfl (X.kd gk_C0).1 ((X.kd gk_C0).2 _ _ _ _) rfl (by decide) (by decide) rfl (Nat.le_of_ble_eq_true rfl) hc dX11_tellChange_182 ?_
  exact gz_EVu hE hf dX11_tellChange_185

def f11_tellChange_111 (c46 : Int32 → Int32 → Nat → Int32 → Int32 → Int32 → Int32 → Int32 → Int32 → gz_M → Option (gz_M)) (x1 : Int32) (x2 : Int32) (x3 : Nat) (x4 : Int32) (x5 : Int32) (x6 : Int32) (x7 : Int32) (x8 : Int32) (x9 : Int32) (x11 : Int32) (s0 : Int32) (M0 : gz_M) : Option (gz_M) := if x11 = (-1) then (gz_lt (x9 + 1) fun v2 => c46 x1 x2 x3 x4 x5 x6 x7 x8 v2 M0) else (if s0 = 0 then (gz_lt (x9 + 1) fun v4 => c46 x1 x2 x3 x4 x5 x6 x7 x8 v4 M0) else (gz_bd2 (f2_hasModesOf (gz_cIx (M0.1 0 5)) x3 x9 x11 M0) fun v5 M6 => if v5 = 0 then (gz_lt (x9 + 1) fun v9 => c46 x1 x2 x3 x4 x5 x6 x7 x8 v9 M6) else (gz_lt (((M6.1 x3 0) - x11) - 1) fun v10 => gz_lt (x9 + 1) fun v11 => c46 x1 x2 x3 x4 x5 x6 v10 1 v11 M6)))
theorem b11_tellChange_111 {x : gz_X} {pf : Nat → Bool} {l : Launch} {M' : gz_M} (X : gz_Ok x cX11_tellChange RX11 13 3 gz_cfC pf l) (hc : gx_cells x ≤ (gx_R x).cells ∧ gx_slots x ≤ (gx_R x).slots) (hE : gz_EV x cX11_tellChange M') {c46 : Int32 → Int32 → Nat → Int32 → Int32 → Int32 → Int32 → Int32 → Int32 → gz_M → Option (gz_M)} (hc46 : ∀ (x1 : Int32) (x2 : Int32) (x3 : Nat) (x4 : Int32) (x5 : Int32) (x6 : Int32) (x7 : Int32) (x8 : Int32) (x9 : Int32) (M0 : gz_M), gz_IsX2 pf x3 → c46 x1 x2 x3 x4 x5 x6 x7 x8 x9 M0 = some M' → gz_At x 46 [(0, .ref (gx_ad x 0)), (1, .int x1), (2, .int x2), (3, .ref (gx_ad x x3)), (4, .int x4), (5, .int x5), (6, .int x6), (7, .int x7), (8, .int x8), (9, .int x9)] [] M0) : ∀ (x1 : Int32) (x2 : Int32) (x3 : Nat) (x4 : Int32) (x5 : Int32) (x6 : Int32) (x7 : Int32) (x8 : Int32) (x9 : Int32) (x11 : Int32) (s0 : Int32) (M0 : gz_M), gz_IsX2 pf x3 → f11_tellChange_111 c46 x1 x2 x3 x4 x5 x6 x7 x8 x9 x11 s0 M0 = some M' → gz_At x 111 [(0, .ref (gx_ad x 0)), (1, .int x1), (2, .int x2), (3, .ref (gx_ad x x3)), (4, .int x4), (5, .int x5), (6, .int x6), (7, .int x7), (8, .int x8), (9, .int x9), (11, .int x11)] [.int s0] M0 := by
  intro x1 x2 x3 x4 x5 x6 x7 x8 x9 x11 s0 M0 hx3 hf
  rw [f11_tellChange_111] at hf
  refine gr_istore [(12, .int s0), (0, .ref (gx_ad x 0)), (1, .int x1), (2, .int x2), (3, .ref (gx_ad x x3)), (4, .int x4), (5, .int x5), (6, .int x6), (7, .int x7), (8, .int x8), (9, .int x9), (11, .int x11)] X dX11_tellChange_111 rfl (by decide) rfl ?_
  refine gr_iload X dX11_tellChange_113 11 rfl ?_
  refine gr_iconst (-1) X dX11_tellChange_115 (by decide) ?_
  refine gr_icmp_eq 153 X dX11_tellChange_116 (by decide) (fun h1 => ?_) (fun h1 => ?_)
  · rw [if_pos h1] at hf
    obtain ⟨v2, ev2, hf⟩ := gz_lte hf
    refine gr_iinc 1 [(9, .int v2), (12, .int s0), (0, .ref (gx_ad x 0)), (1, .int x1), (2, .int x2), (3, .ref (gx_ad x x3)), (4, .int x4), (5, .int x5), (6, .int x6), (7, .int x7), (8, .int x8), (11, .int x11)] X dX11_tellChange_153 10 rfl (by decide) ev2 (by decide) rfl ?_
    refine gr_goto 46 X dX11_tellChange_156 (by decide) ?_
    refine gr_sub (lv' := [(0, .ref (gx_ad x 0)), (1, .int x1), (2, .int x2), (3, .ref (gx_ad x x3)), (4, .int x4), (5, .int x5), (6, .int x6), (7, .int x7), (8, .int x8), (9, .int v2)]) [2, 3, 4, 5, 6, 7, 8, 9, 10, 0] rfl ?_
    exact hc46 _ _ _ _ _ _ _ _ _ _ hx3 hf
  · rw [if_neg h1] at hf
    refine gr_iload X dX11_tellChange_119 0 rfl ?_
    refine gr_if_eq 153 X dX11_tellChange_121 (by decide) (fun h3 => ?_) (fun h3 => ?_)
    · rw [if_pos h3] at hf
      obtain ⟨v4, ev4, hf⟩ := gz_lte hf
      refine gr_iinc 1 [(9, .int v4), (12, .int s0), (0, .ref (gx_ad x 0)), (1, .int x1), (2, .int x2), (3, .ref (gx_ad x x3)), (4, .int x4), (5, .int x5), (6, .int x6), (7, .int x7), (8, .int x8), (11, .int x11)] X dX11_tellChange_153 10 rfl (by decide) ev4 (by decide) rfl ?_
      refine gr_goto 46 X dX11_tellChange_156 (by decide) ?_
      refine gr_sub (lv' := [(0, .ref (gx_ad x 0)), (1, .int x1), (2, .int x2), (3, .ref (gx_ad x x3)), (4, .int x4), (5, .int x5), (6, .int x6), (7, .int x7), (8, .int x8), (9, .int v4)]) [2, 3, 4, 5, 6, 7, 8, 9, 10, 0] rfl ?_
      exact hc46 _ _ _ _ _ _ _ _ _ _ hx3 hf
    · rw [if_neg h3] at hf
      refine gr_aload_n X dX11_tellChange_124 1 rfl rfl ?_
      refine gf11_5 X wf_RX11_47 dX11_tellChange_125 ?_
      refine gr_iload X dX11_tellChange_128 10 rfl ?_
      refine gr_aload_n X dX11_tellChange_130 4 rfl rfl ?_
      refine gr_iload X dX11_tellChange_131 11 rfl ?_
      obtain ⟨v5, M6, q7, hf⟩ := gz_bd2e hf
      refine gr_callI (asF := fun ad => [.ref (ad (gz_cIx (M0.1 0 5))), .int x9, .ref (ad x3), .int x11]) [.int x9, .ref (gx_ad x x3), .int x11] X (c2_hasModesOf (gi_cut _) hx3 q7) rfl wm_RX11_396 rfl (X.kd (gk_X2o (gi_cut _))).1 ((X.kd (gk_X2o (gi_cut _))).2 _ _ _ _) rfl (by decide) (by decide) rfl (Nat.le_of_ble_eq_true rfl) hc dX11_tellChange_133 ?_
      refine gr_if_eq 153 X dX11_tellChange_136 (by decide) (fun h8 => ?_) (fun h8 => ?_)
      · rw [if_pos h8] at hf
        obtain ⟨v9, ev9, hf⟩ := gz_lte hf
        refine gr_iinc 1 [(9, .int v9), (12, .int s0), (0, .ref (gx_ad x 0)), (1, .int x1), (2, .int x2), (3, .ref (gx_ad x x3)), (4, .int x4), (5, .int x5), (6, .int x6), (7, .int x7), (8, .int x8), (11, .int x11)] X dX11_tellChange_153 10 rfl (by decide) ev9 (by decide) rfl ?_
        refine gr_goto 46 X dX11_tellChange_156 (by decide) ?_
        refine gr_sub (lv' := [(0, .ref (gx_ad x 0)), (1, .int x1), (2, .int x2), (3, .ref (gx_ad x x3)), (4, .int x4), (5, .int x5), (6, .int x6), (7, .int x7), (8, .int x8), (9, .int v9)]) [2, 3, 4, 5, 6, 7, 8, 9, 10, 0] rfl ?_
        exact hc46 _ _ _ _ _ _ _ _ _ _ hx3 hf
      · rw [if_neg h8] at hf
        refine gr_iconst 1 X dX11_tellChange_139 (by decide) ?_
        refine gr_istore [(8, .int 1), (12, .int s0), (0, .ref (gx_ad x 0)), (1, .int x1), (2, .int x2), (3, .ref (gx_ad x x3)), (4, .int x4), (5, .int x5), (6, .int x6), (7, .int x7), (9, .int x9), (11, .int x11)] X dX11_tellChange_140 rfl (by decide) rfl ?_
        refine gr_aload_n X dX11_tellChange_142 5 rfl rfl ?_
        refine gf2_0 X (gk_X2o hx3) wf_RX11_190 dX11_tellChange_143 ?_
        refine gr_iload X dX11_tellChange_146 11 rfl ?_
        refine gr_isub X dX11_tellChange_148 ?_
        refine gr_iconst 1 X dX11_tellChange_149 (by decide) ?_
        refine gr_isub X dX11_tellChange_150 ?_
        obtain ⟨v10, ev10, hf⟩ := gz_lte hf
        refine gr_istore [(7, .int v10), (8, .int 1), (12, .int s0), (0, .ref (gx_ad x 0)), (1, .int x1), (2, .int x2), (3, .ref (gx_ad x x3)), (4, .int x4), (5, .int x5), (6, .int x6), (9, .int x9), (11, .int x11)] X dX11_tellChange_151 ev10 (by decide) rfl ?_
        obtain ⟨v11, ev11, hf⟩ := gz_lte hf
        refine gr_iinc 1 [(9, .int v11), (7, .int v10), (8, .int 1), (12, .int s0), (0, .ref (gx_ad x 0)), (1, .int x1), (2, .int x2), (3, .ref (gx_ad x x3)), (4, .int x4), (5, .int x5), (6, .int x6), (11, .int x11)] X dX11_tellChange_153 10 rfl (by decide) ev11 (by decide) rfl ?_
        refine gr_goto 46 X dX11_tellChange_156 (by decide) ?_
        refine gr_sub (lv' := [(0, .ref (gx_ad x 0)), (1, .int x1), (2, .int x2), (3, .ref (gx_ad x x3)), (4, .int x4), (5, .int x5), (6, .int x6), (7, .int v10), (8, .int 1), (9, .int v11)]) [4, 5, 6, 7, 8, 9, 10, 1, 2, 0] rfl ?_
        exact hc46 _ _ _ _ _ _ _ _ _ _ hx3 hf

def f11_tellChange_46 : Nat → Int32 → Int32 → Nat → Int32 → Int32 → Int32 → Int32 → Int32 → Int32 → gz_M → Option (gz_M)
  | 0, _, _, _, _, _, _, _, _, _, _ => none
  | n + 1, x1, x2, x3, x4, x5, x6, x7, x8, x9, M0 => if (M0.1 (gz_cIx (M0.1 0 5)) 0) ≤ x9 then (f11_tellChange_159 x5 x6 x7 M0) else (if x8 = 0 then (gz_lt (x6 + 1) fun v3 => gz_ck (gz_inb x9 24) <| gz_lt (M0.1 (gz_cIx (M0.1 0 5) + 3) x9.toNatClampNeg) fun v5 => gz_bd2 (f2_endingAt x3 (v5 - x4) M0) fun v6 M7 => if x2 < v5 then (f11_tellChange_111 (f11_tellChange_46 n) x1 x2 x3 x4 x5 v3 x7 x8 x9 v6 1 M7) else (if x1 = 2 then (if x2 = v5 then (f11_tellChange_111 (f11_tellChange_46 n) x1 x2 x3 x4 x5 v3 x7 x8 x9 v6 1 M7) else (f11_tellChange_111 (f11_tellChange_46 n) x1 x2 x3 x4 x5 v3 x7 x8 x9 v6 0 M7)) else (f11_tellChange_111 (f11_tellChange_46 n) x1 x2 x3 x4 x5 v3 x7 x8 x9 v6 0 M7))) else (f11_tellChange_159 x5 x6 x7 M0))
theorem b11_tellChange_46 {x : gz_X} {pf : Nat → Bool} {l : Launch} {M' : gz_M} (X : gz_Ok x cX11_tellChange RX11 13 3 gz_cfC pf l) (hc : gx_cells x ≤ (gx_R x).cells ∧ gx_slots x ≤ (gx_R x).slots) (hE : gz_EV x cX11_tellChange M') : ∀ (n : Nat) (x1 : Int32) (x2 : Int32) (x3 : Nat) (x4 : Int32) (x5 : Int32) (x6 : Int32) (x7 : Int32) (x8 : Int32) (x9 : Int32) (M0 : gz_M), gz_IsX2 pf x3 → f11_tellChange_46 n x1 x2 x3 x4 x5 x6 x7 x8 x9 M0 = some M' → gz_At x 46 [(0, .ref (gx_ad x 0)), (1, .int x1), (2, .int x2), (3, .ref (gx_ad x x3)), (4, .int x4), (5, .int x5), (6, .int x6), (7, .int x7), (8, .int x8), (9, .int x9)] [] M0 := by
  intro n
  induction n with
  | zero =>
    intro x1 x2 x3 x4 x5 x6 x7 x8 x9 M0 hx3 hf
    rw [f11_tellChange_46] at hf
    cases hf
  | succ n ih =>
    intro x1 x2 x3 x4 x5 x6 x7 x8 x9 M0 hx3 hf
    rw [f11_tellChange_46] at hf
    refine gr_iload X dX11_tellChange_46 9 rfl ?_
    refine gr_aload_n X dX11_tellChange_48 0 rfl rfl ?_
    refine gf11_5 X wf_RX11_47 dX11_tellChange_49 ?_
    refine gf2_0 X (gk_X2o (gi_cut _)) wf_RX11_190 dX11_tellChange_52 ?_
    refine gr_icmp_ge 159 X dX11_tellChange_55 (by decide) (fun h1 => ?_) (fun h1 => ?_)
    · rw [if_pos h1] at hf
      refine gr_sub (lv' := [(0, .ref (gx_ad x 0)), (5, .int x5), (6, .int x6), (7, .int x7)]) [0, 5, 6, 7] rfl ?_
      exact b11_tellChange_159 X hc hE _ _ _ _ hf
    · rw [if_neg h1] at hf
      refine gr_iload X dX11_tellChange_58 8 rfl ?_
      refine gr_if_ne 159 X dX11_tellChange_60 (by decide) (fun h2 => ?_) (fun h2 => ?_)
      · rw [if_pos h2] at hf
        obtain ⟨v3, ev3, hf⟩ := gz_lte hf
        refine gr_iinc 1 [(6, .int v3), (0, .ref (gx_ad x 0)), (1, .int x1), (2, .int x2), (3, .ref (gx_ad x x3)), (4, .int x4), (5, .int x5), (7, .int x7), (8, .int x8), (9, .int x9)] X dX11_tellChange_63 6 rfl (by decide) ev3 (by decide) rfl ?_
        refine gr_aload_n X dX11_tellChange_66 1 rfl rfl ?_
        refine gf11_5 X wf_RX11_47 dX11_tellChange_67 ?_
        refine gf2_4 X (gk_X2o (gi_cut _)) wf_RX11_193 dX11_tellChange_70 ?_
        refine gr_iload X dX11_tellChange_73 9 rfl ?_
        obtain ⟨h4, hf⟩ := gz_cke hf
        refine gr_iaload X (gk_X23 (gi_cut _)) (gz_inp h4) dX11_tellChange_75 ?_
        obtain ⟨v5, ev5, hf⟩ := gz_lte hf
        refine gr_istore [(10, .int v5), (6, .int v3), (0, .ref (gx_ad x 0)), (1, .int x1), (2, .int x2), (3, .ref (gx_ad x x3)), (4, .int x4), (5, .int x5), (7, .int x7), (8, .int x8), (9, .int x9)] X dX11_tellChange_76 ev5 (by decide) rfl ?_
        refine gr_aload_n X dX11_tellChange_78 5 rfl rfl ?_
        refine gr_iload X dX11_tellChange_79 0 rfl ?_
        refine gr_iload X dX11_tellChange_81 6 rfl ?_
        refine gr_isub X dX11_tellChange_83 ?_
        obtain ⟨v6, M7, q8, hf⟩ := gz_bd2e hf
        refine gr_callI (asF := fun ad => [.ref (ad x3), .int (v5 - x4)]) [.int (v5 - x4)] X (c2_endingAt hx3 q8) rfl wm_RX11_393 rfl (X.kd (gk_X2o hx3)).1 ((X.kd (gk_X2o hx3)).2 _ _ _ _) rfl (by decide) (by decide) rfl (Nat.le_of_ble_eq_true rfl) hc dX11_tellChange_84 ?_
        refine gr_istore [(11, .int v6), (10, .int v5), (6, .int v3), (0, .ref (gx_ad x 0)), (1, .int x1), (2, .int x2), (3, .ref (gx_ad x x3)), (4, .int x4), (5, .int x5), (7, .int x7), (8, .int x8), (9, .int x9)] X dX11_tellChange_87 rfl (by decide) rfl ?_
        refine gr_iload_n X dX11_tellChange_89 5 rfl rfl ?_
        refine gr_iload X dX11_tellChange_90 1 rfl ?_
        refine gr_icmp_lt 106 X dX11_tellChange_92 (by decide) (fun h9 => ?_) (fun h9 => ?_)
        · rw [if_pos h9] at hf
          refine gr_iconst 1 X dX11_tellChange_106 (by decide) ?_
          refine gr_goto 111 X dX11_tellChange_107 (by decide) ?_
          refine gr_sub (lv' := [(0, .ref (gx_ad x 0)), (1, .int x1), (2, .int x2), (3, .ref (gx_ad x x3)), (4, .int x4), (5, .int x5), (6, .int v3), (7, .int x7), (8, .int x8), (9, .int x9), (11, .int v6)]) [3, 4, 5, 6, 7, 8, 2, 9, 10, 11, 0] rfl ?_
          exact b11_tellChange_111 X hc hE ih _ _ _ _ _ _ _ _ _ _ _ _ hx3 hf
        · rw [if_neg h9] at hf
          refine gr_iload_n X dX11_tellChange_95 4 rfl rfl ?_
          refine gr_iconst 2 X dX11_tellChange_96 (by decide) ?_
          refine gr_icmp_ne 110 X dX11_tellChange_97 (by decide) (fun h10 => ?_) (fun h10 => ?_)
          · rw [if_pos h10] at hf
            refine gr_iload_n X dX11_tellChange_100 5 rfl rfl ?_
            refine gr_iload X dX11_tellChange_101 1 rfl ?_
            refine gr_icmp_ne 110 X dX11_tellChange_103 (by decide) (fun h11 => ?_) (fun h11 => ?_)
            · rw [if_pos h11] at hf
              refine gr_iconst 1 X dX11_tellChange_106 (by decide) ?_
              refine gr_goto 111 X dX11_tellChange_107 (by decide) ?_
              refine gr_sub (lv' := [(0, .ref (gx_ad x 0)), (1, .int x1), (2, .int x2), (3, .ref (gx_ad x x3)), (4, .int x4), (5, .int x5), (6, .int v3), (7, .int x7), (8, .int x8), (9, .int x9), (11, .int v6)]) [3, 4, 5, 6, 7, 8, 2, 9, 10, 11, 0] rfl ?_
              exact b11_tellChange_111 X hc hE ih _ _ _ _ _ _ _ _ _ _ _ _ hx3 hf
            · rw [if_neg h11] at hf
              refine gr_iconst 0 X dX11_tellChange_110 (by decide) ?_
              refine gr_sub (lv' := [(0, .ref (gx_ad x 0)), (1, .int x1), (2, .int x2), (3, .ref (gx_ad x x3)), (4, .int x4), (5, .int x5), (6, .int v3), (7, .int x7), (8, .int x8), (9, .int x9), (11, .int v6)]) [3, 4, 5, 6, 7, 8, 2, 9, 10, 11, 0] rfl ?_
              exact b11_tellChange_111 X hc hE ih _ _ _ _ _ _ _ _ _ _ _ _ hx3 hf
          · rw [if_neg h10] at hf
            refine gr_iconst 0 X dX11_tellChange_110 (by decide) ?_
            refine gr_sub (lv' := [(0, .ref (gx_ad x 0)), (1, .int x1), (2, .int x2), (3, .ref (gx_ad x x3)), (4, .int x4), (5, .int x5), (6, .int v3), (7, .int x7), (8, .int x8), (9, .int x9), (11, .int v6)]) [3, 4, 5, 6, 7, 8, 2, 9, 10, 11, 0] rfl ?_
            exact b11_tellChange_111 X hc hE ih _ _ _ _ _ _ _ _ _ _ _ _ hx3 hf
      · rw [if_neg h2] at hf
        refine gr_sub (lv' := [(0, .ref (gx_ad x 0)), (5, .int x5), (6, .int x6), (7, .int x7)]) [0, 5, 6, 7] rfl ?_
        exact b11_tellChange_159 X hc hE _ _ _ _ hf

def f11_tellChange_24 (x1 : Int32) (x2 : Int32) (x3 : Nat) (s0 : Int32) (M0 : gz_M) : Option (gz_M) := gz_bd2 (f2_aheadOf x3 x2 M0) fun v1 M2 => f11_tellChange_46 gz_FU x1 x2 x3 s0 v1 0 0 0 v1 M2
theorem b11_tellChange_24 {x : gz_X} {pf : Nat → Bool} {l : Launch} {M' : gz_M} (X : gz_Ok x cX11_tellChange RX11 13 3 gz_cfC pf l) (hc : gx_cells x ≤ (gx_R x).cells ∧ gx_slots x ≤ (gx_R x).slots) (hE : gz_EV x cX11_tellChange M') : ∀ (x1 : Int32) (x2 : Int32) (x3 : Nat) (s0 : Int32) (M0 : gz_M), gz_IsX2 pf x3 → f11_tellChange_24 x1 x2 x3 s0 M0 = some M' → gz_At x 24 [(0, .ref (gx_ad x 0)), (1, .int x1), (2, .int x2), (3, .ref (gx_ad x x3))] [.int s0] M0 := by
  intro x1 x2 x3 s0 M0 hx3 hf
  rw [f11_tellChange_24] at hf
  refine gr_istore [(4, .int s0), (0, .ref (gx_ad x 0)), (1, .int x1), (2, .int x2), (3, .ref (gx_ad x x3))] X dX11_tellChange_24 rfl (by decide) rfl ?_
  refine gr_aload_n X dX11_tellChange_26 4 rfl rfl ?_
  refine gr_iload_n X dX11_tellChange_27 3 rfl rfl ?_
  obtain ⟨v1, M2, q3, hf⟩ := gz_bd2e hf
  refine gr_callI (asF := fun ad => [.ref (ad x3), .int x2]) [.int x2] X (c2_aheadOf hx3 q3) rfl wm_RX11_333 rfl (X.kd (gk_X2o hx3)).1 ((X.kd (gk_X2o hx3)).2 _ _ _ _) rfl (by decide) (by decide) rfl (Nat.le_of_ble_eq_true rfl) hc dX11_tellChange_28 ?_
  refine gr_istore [(5, .int v1), (4, .int s0), (0, .ref (gx_ad x 0)), (1, .int x1), (2, .int x2), (3, .ref (gx_ad x x3))] X dX11_tellChange_31 rfl (by decide) rfl ?_
  refine gr_iconst 0 X dX11_tellChange_33 (by decide) ?_
  refine gr_istore [(6, .int 0), (5, .int v1), (4, .int s0), (0, .ref (gx_ad x 0)), (1, .int x1), (2, .int x2), (3, .ref (gx_ad x x3))] X dX11_tellChange_34 rfl (by decide) rfl ?_
  refine gr_iconst 0 X dX11_tellChange_36 (by decide) ?_
  refine gr_istore [(7, .int 0), (6, .int 0), (5, .int v1), (4, .int s0), (0, .ref (gx_ad x 0)), (1, .int x1), (2, .int x2), (3, .ref (gx_ad x x3))] X dX11_tellChange_37 rfl (by decide) rfl ?_
  refine gr_iconst 0 X dX11_tellChange_39 (by decide) ?_
  refine gr_istore [(8, .int 0), (7, .int 0), (6, .int 0), (5, .int v1), (4, .int s0), (0, .ref (gx_ad x 0)), (1, .int x1), (2, .int x2), (3, .ref (gx_ad x x3))] X dX11_tellChange_40 rfl (by decide) rfl ?_
  refine gr_iload X dX11_tellChange_42 3 rfl ?_
  refine gr_istore [(9, .int v1), (8, .int 0), (7, .int 0), (6, .int 0), (5, .int v1), (4, .int s0), (0, .ref (gx_ad x 0)), (1, .int x1), (2, .int x2), (3, .ref (gx_ad x x3))] X dX11_tellChange_44 rfl (by decide) rfl ?_
  refine gr_sub (lv' := [(0, .ref (gx_ad x 0)), (1, .int x1), (2, .int x2), (3, .ref (gx_ad x x3)), (4, .int s0), (5, .int v1), (6, .int 0), (7, .int 0), (8, .int 0), (9, .int v1)]) [6, 7, 8, 9, 5, 4, 3, 2, 1, 0] rfl ?_
  exact b11_tellChange_46 X hc hE _ _ _ _ _ _ _ _ _ _ _ hx3 hf

def f11_tellChange (a0 : Int32) (a1 : Int32) (M0 : gz_M) : Option (gz_M) := if a0 = 1 then (f11_tellChange_24 a0 a1 (gz_cIx (M0.1 0 8)) 1 M0) else (if a0 = 2 then (f11_tellChange_24 a0 a1 (gz_cIx (M0.1 0 8)) (-1) M0) else (f11_tellChange_24 a0 a1 (gz_cIx (M0.1 0 8)) 0 M0))
set_option maxRecDepth 100000 in
theorem c11_tellChange {pf : Nat → Bool} {l : Launch} {M0 M' : gz_M} {a0 : Int32} {a1 : Int32} (hf : f11_tellChange a0 a1 M0 = some M') : gz_CV l gz_cfC yX11_tellChange cX11_tellChange 13 3 (fun ad => [.ref (ad 0), .int a0, .int a1]) pf M0 M' := by
  refine gz_ofV (by decide +kernel) (fun _ => Nat.le_of_ble_eq_true rfl) (fun x X hc hE => ?_)
  show gz_At x 0 [(0, .ref (gx_ad x 0)), (1, .int a0), (2, .int a1)] [] M0
  unfold f11_tellChange at hf
  refine gr_aload_n X dX11_tellChange_0 0 rfl rfl ?_
  refine gf11_8 X wf_RX11_61 dX11_tellChange_1 ?_
  refine gr_astore_n [(3, .ref (gx_ad x (gz_cIx (M0.1 0 8)))), (0, .ref (gx_ad x 0)), (1, .int a0), (2, .int a1)] X dX11_tellChange_4 rfl (by decide) rfl ?_
  refine gr_iload_n X dX11_tellChange_5 2 rfl rfl ?_
  refine gr_iconst 1 X dX11_tellChange_6 (by decide) ?_
  refine gr_icmp_ne 14 X dX11_tellChange_7 (by decide) (fun h1 => ?_) (fun h1 => ?_)
  · rw [if_pos h1] at hf
    refine gr_iconst 1 X dX11_tellChange_10 (by decide) ?_
    refine gr_goto 24 X dX11_tellChange_11 (by decide) ?_
    refine gr_sub (lv' := [(0, .ref (gx_ad x 0)), (1, .int a0), (2, .int a1), (3, .ref (gx_ad x (gz_cIx (M0.1 0 8))))]) [1, 2, 3, 0] rfl ?_
    exact b11_tellChange_24 X hc hE _ _ _ _ _ (gi_cut _) hf
  · rw [if_neg h1] at hf
    refine gr_iload_n X dX11_tellChange_14 2 rfl rfl ?_
    refine gr_iconst 2 X dX11_tellChange_15 (by decide) ?_
    refine gr_icmp_ne 23 X dX11_tellChange_16 (by decide) (fun h2 => ?_) (fun h2 => ?_)
    · rw [if_pos h2] at hf
      refine gr_iconst (-1) X dX11_tellChange_19 (by decide) ?_
      refine gr_goto 24 X dX11_tellChange_20 (by decide) ?_
      refine gr_sub (lv' := [(0, .ref (gx_ad x 0)), (1, .int a0), (2, .int a1), (3, .ref (gx_ad x (gz_cIx (M0.1 0 8))))]) [1, 2, 3, 0] rfl ?_
      exact b11_tellChange_24 X hc hE _ _ _ _ _ (gi_cut _) hf
    · rw [if_neg h2] at hf
      refine gr_iconst 0 X dX11_tellChange_23 (by decide) ?_
      refine gr_sub (lv' := [(0, .ref (gx_ad x 0)), (1, .int a0), (2, .int a1), (3, .ref (gx_ad x (gz_cIx (M0.1 0 8))))]) [1, 2, 3, 0] rfl ?_
      exact b11_tellChange_24 X hc hE _ _ _ _ _ (gi_cut _) hf

