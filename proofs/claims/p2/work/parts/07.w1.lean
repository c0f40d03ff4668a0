theorem wk_RJ6_265 : Cond.constant RJ6 265 1431655765 ∈ gz_TB := gz_in 859 (by decide +kernel) rfl
theorem wk_RJ6_266 : Cond.constant RJ6 266 858993459 ∈ gz_TB := gz_in 860 (by decide +kernel) rfl
theorem wk_RJ6_267 : Cond.constant RJ6 267 252645135 ∈ gz_TB := gz_in 861 (by decide +kernel) rfl
theorem wf_RX10_15 : gz_FL RX10 15 RX10 "length" "I" := Or.inl (gz_in 122 (by decide +kernel) rfl)
theorem wf_RX10_9 : gz_FL RX10 9 RX10 "signs" "[I" := Or.inl (gz_in 120 (by decide +kernel) rfl)
theorem wf_RX5_15 : gz_FL RX5 15 RX5 "length" "I" := Or.inl (gz_in 184 (by decide +kernel) rfl)
theorem wf_RX5_9 : gz_FL RX5 9 RX5 "signs" "[I" := Or.inl (gz_in 183 (by decide +kernel) rfl)
theorem wl_RX5_19 : Cond.methodLink RX5 19 arraycopyName ∈ gz_TB := gz_in 562 (by decide +kernel) rfl
theorem wf_RX5_25 : gz_FL RX5 25 RX10 "length" "I" := Or.inr ⟨"LongestTokens", gz_inN 126 (by decide +kernel) rfl⟩
theorem wc_yX10_get : Cond.instanceMethod yX10_get ∈ gz_TB ∧ Cond.selects RX10 yX10_get yX10_get ∈ gz_TB ∧ Cond.initialized yX10_get.cls ∈ gz_TB ∧ Cond.code yX10_get cX10_get 2 (some (.int)) ∈ gz_TB ∧ (yX10_get.cls ≠ "java/lang/invoke/MethodHandle" ∧ yX10_get.cls ≠ "java/lang/invoke/VarHandle" ∧ (parseMethodDescriptor yX10_get.desc).map (fun d => d.parameters.length) = some 1) := ⟨gz_in 504 (by decide +kernel) rfl, gz_in 505 (by decide +kernel) rfl, gz_in 86 (by decide +kernel) rfl, gz_in 506 (by decide +kernel) rfl, by decide +kernel⟩
theorem wm_RX5_28 : gz_WV RX5 28 RX10 yX10_get cX10_get 2 1 (some (.int)) := ⟨Or.inl (gz_in 695 (by decide +kernel) rfl), wc_yX10_get⟩
theorem wc_yX5_insert : Cond.instanceMethod yX5_insert ∈ gz_TB ∧ Cond.selects RX5 yX5_insert yX5_insert ∈ gz_TB ∧ Cond.initialized yX5_insert.cls ∈ gz_TB ∧ Cond.code yX5_insert cX5_insert 4 none ∈ gz_TB ∧ (yX5_insert.cls ≠ "java/lang/invoke/MethodHandle" ∧ yX5_insert.cls ≠ "java/lang/invoke/VarHandle" ∧ (parseMethodDescriptor yX5_insert.desc).map (fun d => d.parameters.length) = some 2) := ⟨gz_in 697 (by decide +kernel) rfl, gz_in 698 (by decide +kernel) rfl, gz_in 90 (by decide +kernel) rfl, gz_in 699 (by decide +kernel) rfl, by decide +kernel⟩
theorem wm_RX5_32 : gz_WV RX5 32 RX5 yX5_insert cX5_insert 4 2 none := ⟨Or.inl (gz_in 696 (by decide +kernel) rfl), wc_yX5_insert⟩
theorem wc_yX5_has : Cond.instanceMethod yX5_has ∈ gz_TB ∧ Cond.selects RX5 yX5_has yX5_has ∈ gz_TB ∧ Cond.initialized yX5_has.cls ∈ gz_TB ∧ Cond.code yX5_has cX5_has 2 (some (.boolean)) ∈ gz_TB ∧ (yX5_has.cls ≠ "java/lang/invoke/MethodHandle" ∧ yX5_has.cls ≠ "java/lang/invoke/VarHandle" ∧ (parseMethodDescriptor yX5_has.desc).map (fun d => d.parameters.length) = some 1) := ⟨gz_in 759 (by decide +kernel) rfl, gz_in 760 (by decide +kernel) rfl, gz_in 90 (by decide +kernel) rfl, gz_in 761 (by decide +kernel) rfl, by decide +kernel⟩
theorem wm_RX5_36 : gz_WV RX5 36 RX5 yX5_has cX5_has 2 1 (some (.boolean)) := ⟨Or.inl (gz_in 957 (by decide +kernel) rfl), wc_yX5_has⟩
theorem wc_yX5_get : Cond.instanceMethod yX5_get ∈ gz_TB ∧ Cond.selects RX5 yX5_get yX5_get ∈ gz_TB ∧ Cond.initialized yX5_get.cls ∈ gz_TB ∧ Cond.code yX5_get cX5_get 2 (some (.int)) ∈ gz_TB ∧ (yX5_get.cls ≠ "java/lang/invoke/MethodHandle" ∧ yX5_get.cls ≠ "java/lang/invoke/VarHandle" ∧ (parseMethodDescriptor yX5_get.desc).map (fun d => d.parameters.length) = some 1) := ⟨gz_in 654 (by decide +kernel) rfl, gz_in 655 (by decide +kernel) rfl, gz_in 90 (by decide +kernel) rfl, gz_in 656 (by decide +kernel) rfl, by decide +kernel⟩
theorem wm_RX5_40 : gz_WV RX5 40 RX5 yX5_get cX5_get 2 1 (some (.int)) := ⟨Or.inl (gz_in 958 (by decide +kernel) rfl), wc_yX5_get⟩
theorem wc_yX5_refusal : Cond.instanceMethod yX5_refusal ∈ gz_TB ∧ Cond.selects RX5 yX5_refusal yX5_refusal ∈ gz_TB ∧ Cond.initialized yX5_refusal.cls ∈ gz_TB ∧ Cond.code yX5_refusal cX5_refusal 6 (some (.int)) ∈ gz_TB ∧ (yX5_refusal.cls ≠ "java/lang/invoke/MethodHandle" ∧ yX5_refusal.cls ≠ "java/lang/invoke/VarHandle" ∧ (parseMethodDescriptor yX5_refusal.desc).map (fun d => d.parameters.length) = some 3) := ⟨gz_in 954 (by decide +kernel) rfl, gz_in 955 (by decide +kernel) rfl, gz_in 90 (by decide +kernel) rfl, gz_in 956 (by decide +kernel) rfl, by decide +kernel⟩
theorem wm_RX5_41 : gz_WV RX5 41 RX5 yX5_refusal cX5_refusal 6 3 (some (.int)) := ⟨Or.inl (gz_in 963 (by decide +kernel) rfl), wc_yX5_refusal⟩
theorem wc_yX5_put : Cond.instanceMethod yX5_put ∈ gz_TB ∧ Cond.selects RX5 yX5_put yX5_put ∈ gz_TB ∧ Cond.initialized yX5_put.cls ∈ gz_TB ∧ Cond.code yX5_put cX5_put 3 none ∈ gz_TB ∧ (yX5_put.cls ≠ "java/lang/invoke/MethodHandle" ∧ yX5_put.cls ≠ "java/lang/invoke/VarHandle" ∧ (parseMethodDescriptor yX5_put.desc).map (fun d => d.parameters.length) = some 2) := ⟨gz_in 965 (by decide +kernel) rfl, gz_in 966 (by decide +kernel) rfl, gz_in 90 (by decide +kernel) rfl, gz_in 967 (by decide +kernel) rfl, by decide +kernel⟩
theorem wm_RX5_45 : gz_WV RX5 45 RX5 yX5_put cX5_put 3 2 none := ⟨Or.inl (gz_in 964 (by decide +kernel) rfl), wc_yX5_put⟩
theorem wc_yX5_remove : Cond.instanceMethod yX5_remove ∈ gz_TB ∧ Cond.selects RX5 yX5_remove yX5_remove ∈ gz_TB ∧ Cond.initialized yX5_remove.cls ∈ gz_TB ∧ Cond.code yX5_remove cX5_remove 3 none ∈ gz_TB ∧ (yX5_remove.cls ≠ "java/lang/invoke/MethodHandle" ∧ yX5_remove.cls ≠ "java/lang/invoke/VarHandle" ∧ (parseMethodDescriptor yX5_remove.desc).map (fun d => d.parameters.length) = some 1) := ⟨gz_in 970 (by decide +kernel) rfl, gz_in 28 (by decide +kernel) rfl, gz_in 90 (by decide +kernel) rfl, gz_in 971 (by decide +kernel) rfl, by decide +kernel⟩
theorem wm_RX5_48 : gz_WV RX5 48 RX5 yX5_remove cX5_remove 3 1 none := ⟨Or.inl (gz_in 968 (by decide +kernel) rfl), wc_yX5_remove⟩
theorem wf_RX3_15 : gz_FL RX3 15 RX3 "ruleNumber" "I" := Or.inl (gz_in 140 (by decide +kernel) rfl)
theorem wc_yX3_isSign : Cond.static yX3_isSign ∈ gz_TB ∧ Cond.initialized yX3_isSign.cls ∈ gz_TB ∧ Cond.code yX3_isSign cX3_isSign 1 (some (.boolean)) ∈ gz_TB ∧ (yX3_isSign.cls ≠ "java/lang/invoke/MethodHandle" ∧ yX3_isSign.cls ≠ "java/lang/invoke/VarHandle" ∧ (parseMethodDescriptor yX3_isSign.desc).map (fun d => d.parameters.length) = some 1) := ⟨gz_in 522 (by decide +kernel) rfl, gz_in 87 (by decide +kernel) rfl, gz_in 523 (by decide +kernel) rfl, by decide +kernel⟩
theorem wm_RX3_35 : gz_WS RX3 35 yX3_isSign cX3_isSign 1 1 (some (.boolean)) := ⟨Or.inl (gz_in 521 (by decide +kernel) rfl), wc_yX3_isSign⟩
theorem wc_yX3_isLetter : Cond.static yX3_isLetter ∈ gz_TB ∧ Cond.initialized yX3_isLetter.cls ∈ gz_TB ∧ Cond.code yX3_isLetter cX3_isLetter 1 (some (.boolean)) ∈ gz_TB ∧ (yX3_isLetter.cls ≠ "java/lang/invoke/MethodHandle" ∧ yX3_isLetter.cls ≠ "java/lang/invoke/VarHandle" ∧ (parseMethodDescriptor yX3_isLetter.desc).map (fun d => d.parameters.length) = some 1) := ⟨gz_in 519 (by decide +kernel) rfl, gz_in 87 (by decide +kernel) rfl, gz_in 520 (by decide +kernel) rfl, by decide +kernel⟩
theorem wm_RX3_58 : gz_WS RX3 58 yX3_isLetter cX3_isLetter 1 1 (some (.boolean)) := ⟨Or.inl (gz_in 518 (by decide +kernel) rfl), wc_yX3_isLetter⟩
theorem wf_RX3_9 : gz_FL RX3 9 RX3 "open" "I" := Or.inl (gz_in 139 (by decide +kernel) rfl)
theorem wc_yX3_dueInNextRule : Cond.instanceMethod yX3_dueInNextRule ∈ gz_TB ∧ Cond.selects RX3 yX3_dueInNextRule yX3_dueInNextRule ∈ gz_TB ∧ Cond.initialized yX3_dueInNextRule.cls ∈ gz_TB ∧ Cond.code yX3_dueInNextRule cX3_dueInNextRule 1 (some (.int)) ∈ gz_TB ∧ (yX3_dueInNextRule.cls ≠ "java/lang/invoke/MethodHandle" ∧ yX3_dueInNextRule.cls ≠ "java/lang/invoke/VarHandle" ∧ (parseMethodDescriptor yX3_dueInNextRule.desc).map (fun d => d.parameters.length) = some 0) := ⟨gz_in 530 (by decide +kernel) rfl, gz_in 3 (by decide +kernel) rfl, gz_in 87 (by decide +kernel) rfl, gz_in 531 (by decide +kernel) rfl, by decide +kernel⟩
theorem wm_RX3_54 : gz_WV RX3 54 RX3 yX3_dueInNextRule cX3_dueInNextRule 1 0 (some (.int)) := ⟨Or.inl (gz_in 528 (by decide +kernel) rfl), wc_yX3_dueInNextRule⟩
theorem wc_yX3_dueInPart : Cond.instanceMethod yX3_dueInPart ∈ gz_TB ∧ Cond.selects RX3 yX3_dueInPart yX3_dueInPart ∈ gz_TB ∧ Cond.initialized yX3_dueInPart.cls ∈ gz_TB ∧ Cond.code yX3_dueInPart cX3_dueInPart 2 (some (.int)) ∈ gz_TB ∧ (yX3_dueInPart.cls ≠ "java/lang/invoke/MethodHandle" ∧ yX3_dueInPart.cls ≠ "java/lang/invoke/VarHandle" ∧ (parseMethodDescriptor yX3_dueInPart.desc).map (fun d => d.parameters.length) = some 1) := ⟨gz_in 516 (by decide +kernel) rfl, gz_in 1 (by decide +kernel) rfl, gz_in 87 (by decide +kernel) rfl, gz_in 517 (by decide +kernel) rfl, by decide +kernel⟩
theorem wm_RX3_48 : gz_WV RX3 48 RX3 yX3_dueInPart cX3_dueInPart 2 1 (some (.int)) := ⟨Or.inl (gz_in 514 (by decide +kernel) rfl), wc_yX3_dueInPart⟩
theorem wc_yX3_isModeDigit : Cond.static yX3_isModeDigit ∈ gz_TB ∧ Cond.initialized yX3_isModeDigit.cls ∈ gz_TB ∧ Cond.code yX3_isModeDigit cX3_isModeDigit 1 (some (.boolean)) ∈ gz_TB ∧ (yX3_isModeDigit.cls ≠ "java/lang/invoke/MethodHandle" ∧ yX3_isModeDigit.cls ≠ "java/lang/invoke/VarHandle" ∧ (parseMethodDescriptor yX3_isModeDigit.desc).map (fun d => d.parameters.length) = some 1) := ⟨gz_in 512 (by decide +kernel) rfl, gz_in 87 (by decide +kernel) rfl, gz_in 513 (by decide +kernel) rfl, by decide +kernel⟩
theorem wm_RX3_45 : gz_WS RX3 45 yX3_isModeDigit cX3_isModeDigit 1 1 (some (.boolean)) := ⟨Or.inl (gz_in 511 (by decide +kernel) rfl), wc_yX3_isModeDigit⟩
theorem wc_yX3_dueBehindPart : Cond.instanceMethod yX3_dueBehindPart ∈ gz_TB ∧ Cond.selects RX3 yX3_dueBehindPart yX3_dueBehindPart ∈ gz_TB ∧ Cond.initialized yX3_dueBehindPart.cls ∈ gz_TB ∧ Cond.code yX3_dueBehindPart cX3_dueBehindPart 2 (some (.int)) ∈ gz_TB ∧ (yX3_dueBehindPart.cls ≠ "java/lang/invoke/MethodHandle" ∧ yX3_dueBehindPart.cls ≠ "java/lang/invoke/VarHandle" ∧ (parseMethodDescriptor yX3_dueBehindPart.desc).map (fun d => d.parameters.length) = some 1) := ⟨gz_in 526 (by decide +kernel) rfl, gz_in 2 (by decide +kernel) rfl, gz_in 87 (by decide +kernel) rfl, gz_in 527 (by decide +kernel) rfl, by decide +kernel⟩
theorem wm_RX3_51 : gz_WV RX3 51 RX3 yX3_dueBehindPart cX3_dueBehindPart 2 1 (some (.int)) := ⟨Or.inl (gz_in 524 (by decide +kernel) rfl), wc_yX3_dueBehindPart⟩
theorem wf_RX3_18 : gz_FL RX3 18 RX10 "length" "I" := Or.inr ⟨"LongestTokens", gz_inN 124 (by decide +kernel) rfl⟩
theorem wm_RX3_23 : gz_WV RX3 23 RX10 yX10_get cX10_get 2 1 (some (.int)) := ⟨Or.inl (gz_in 503 (by decide +kernel) rfl), wc_yX10_get⟩
theorem wc_yX3_dueBehind : Cond.instanceMethod yX3_dueBehind ∈ gz_TB ∧ Cond.selects RX3 yX3_dueBehind yX3_dueBehind ∈ gz_TB ∧ Cond.initialized yX3_dueBehind.cls ∈ gz_TB ∧ Cond.code yX3_dueBehind cX3_dueBehind 3 (some (.int)) ∈ gz_TB ∧ (yX3_dueBehind.cls ≠ "java/lang/invoke/MethodHandle" ∧ yX3_dueBehind.cls ≠ "java/lang/invoke/VarHandle" ∧ (parseMethodDescriptor yX3_dueBehind.desc).map (fun d => d.parameters.length) = some 2) := ⟨gz_in 509 (by decide +kernel) rfl, gz_in 0 (by decide +kernel) rfl, gz_in 87 (by decide +kernel) rfl, gz_in 510 (by decide +kernel) rfl, by decide +kernel⟩
theorem wm_RX3_27 : gz_WV RX3 27 RX3 yX3_dueBehind cX3_dueBehind 3 2 (some (.int)) := ⟨Or.inl (gz_in 507 (by decide +kernel) rfl), wc_yX3_dueBehind⟩
theorem wc_yX3_lettersOfMode : Cond.static yX3_lettersOfMode ∈ gz_TB ∧ Cond.initialized yX3_lettersOfMode.cls ∈ gz_TB ∧ Cond.code yX3_lettersOfMode cX3_lettersOfMode 6 (some (.int)) ∈ gz_TB ∧ (yX3_lettersOfMode.cls ≠ "java/lang/invoke/MethodHandle" ∧ yX3_lettersOfMode.cls ≠ "java/lang/invoke/VarHandle" ∧ (parseMethodDescriptor yX3_lettersOfMode.desc).map (fun d => d.parameters.length) = some 2) := ⟨gz_in 537 (by decide +kernel) rfl, gz_in 87 (by decide +kernel) rfl, gz_in 538 (by decide +kernel) rfl, by decide +kernel⟩
theorem wm_RX3_31 : gz_WS RX3 31 yX3_lettersOfMode cX3_lettersOfMode 6 2 (some (.int)) := ⟨Or.inl (gz_in 536 (by decide +kernel) rfl), wc_yX3_lettersOfMode⟩
theorem wc_yX3_kindOfChange : Cond.static yX3_kindOfChange ∈ gz_TB ∧ Cond.initialized yX3_kindOfChange.cls ∈ gz_TB ∧ Cond.code yX3_kindOfChange cX3_kindOfChange 1 (some (.int)) ∈ gz_TB ∧ (yX3_kindOfChange.cls ≠ "java/lang/invoke/MethodHandle" ∧ yX3_kindOfChange.cls ≠ "java/lang/invoke/VarHandle" ∧ (parseMethodDescriptor yX3_kindOfChange.desc).map (fun d => d.parameters.length) = some 1) := ⟨gz_in 1007 (by decide +kernel) rfl, gz_in 87 (by decide +kernel) rfl, gz_in 1008 (by decide +kernel) rfl, by decide +kernel⟩
theorem wm_RX3_39 : gz_WS RX3 39 yX3_kindOfChange cX3_kindOfChange 1 1 (some (.int)) := ⟨Or.inl (gz_in 1006 (by decide +kernel) rfl), wc_yX3_kindOfChange⟩
theorem wc_yX3_isDigit : Cond.static yX3_isDigit ∈ gz_TB ∧ Cond.initialized yX3_isDigit.cls ∈ gz_TB ∧ Cond.code yX3_isDigit cX3_isDigit 1 (some (.boolean)) ∈ gz_TB ∧ (yX3_isDigit.cls ≠ "java/lang/invoke/MethodHandle" ∧ yX3_isDigit.cls ≠ "java/lang/invoke/VarHandle" ∧ (parseMethodDescriptor yX3_isDigit.desc).map (fun d => d.parameters.length) = some 1) := ⟨gz_in 1010 (by decide +kernel) rfl, gz_in 87 (by decide +kernel) rfl, gz_in 1011 (by decide +kernel) rfl, by decide +kernel⟩
theorem wm_RX3_42 : gz_WS RX3 42 yX3_isDigit cX3_isDigit 1 1 (some (.boolean)) := ⟨Or.inl (gz_in 1009 (by decide +kernel) rfl), wc_yX3_isDigit⟩
theorem wf_RX7_9 : gz_FL RX7 9 RX7 "total" "I" := Or.inl (gz_in 214 (by decide +kernel) rfl)
theorem wf_RX7_35 : gz_FL RX7 35 RX7 "used" "[I" := Or.inl (gz_in 238 (by decide +kernel) rfl)
theorem wf_RX7_38 : gz_FL RX7 38 RX7 "opening" "[I" := Or.inl (gz_in 240 (by decide +kernel) rfl)
theorem wf_RX7_43 : gz_FL RX7 43 RX7 "follow" "[[I" := Or.inl (gz_in 242 (by decide +kernel) rfl)
theorem wc_yJ7_fill_53178 : Cond.static yJ7_fill_53178 ∈ gz_TB ∧ Cond.initialized yJ7_fill_53178.cls ∈ gz_TB ∧ Cond.code yJ7_fill_53178 cJ7_fill_53178 4 none ∈ gz_TB ∧ (yJ7_fill_53178.cls ≠ "java/lang/invoke/MethodHandle" ∧ yJ7_fill_53178.cls ≠ "java/lang/invoke/VarHandle" ∧ (parseMethodDescriptor yJ7_fill_53178.desc).map (fun d => d.parameters.length) = some 2) := ⟨gz_in 580 (by decide +kernel) rfl, gz_in 100 (by decide +kernel) rfl, gz_in 581 (by decide +kernel) rfl, by decide +kernel⟩
theorem wm_RX7_49 : gz_WS RX7 49 yJ7_fill_53178 cJ7_fill_53178 4 2 none := ⟨Or.inl (gz_in 579 (by decide +kernel) rfl), wc_yJ7_fill_53178⟩
theorem wf_RX7_46 : gz_FL RX7 46 RX7 "takers" "[[I" := Or.inl (gz_in 244 (by decide +kernel) rfl)
theorem wc_yX11_isMode : Cond.static yX11_isMode ∈ gz_TB ∧ Cond.initialized yX11_isMode.cls ∈ gz_TB ∧ Cond.code yX11_isMode cX11_isMode 1 (some (.boolean)) ∈ gz_TB ∧ (yX11_isMode.cls ≠ "java/lang/invoke/MethodHandle" ∧ yX11_isMode.cls ≠ "java/lang/invoke/VarHandle" ∧ (parseMethodDescriptor yX11_isMode.desc).map (fun d => d.parameters.length) = some 1) := ⟨gz_in 587 (by decide +kernel) rfl, gz_in 85 (by decide +kernel) rfl, gz_in 588 (by decide +kernel) rfl, by decide +kernel⟩
theorem wm_RX7_55 : gz_WS RX7 55 yX11_isMode cX11_isMode 1 1 (some (.boolean)) := ⟨Or.inr ⟨"LongestTokens", gz_inN 652 (by decide +kernel) rfl⟩, wc_yX11_isMode⟩
theorem wc_yX7_takersOf : Cond.instanceMethod yX7_takersOf ∈ gz_TB ∧ Cond.selects RX7 yX7_takersOf yX7_takersOf ∈ gz_TB ∧ Cond.initialized yX7_takersOf.cls ∈ gz_TB ∧ Cond.code yX7_takersOf cX7_takersOf 3 (some (.int)) ∈ gz_TB ∧ (yX7_takersOf.cls ≠ "java/lang/invoke/MethodHandle" ∧ yX7_takersOf.cls ≠ "java/lang/invoke/VarHandle" ∧ (parseMethodDescriptor yX7_takersOf.desc).map (fun d => d.parameters.length) = some 2) := ⟨gz_in 658 (by decide +kernel) rfl, gz_in 659 (by decide +kernel) rfl, gz_in 91 (by decide +kernel) rfl, gz_in 660 (by decide +kernel) rfl, by decide +kernel⟩
theorem wm_RX7_59 : gz_WV RX7 59 RX7 yX7_takersOf cX7_takersOf 3 2 (some (.int)) := ⟨Or.inl (gz_in 834 (by decide +kernel) rfl), wc_yX7_takersOf⟩
theorem wc_yX7_atFirst : Cond.instanceMethod yX7_atFirst ∈ gz_TB ∧ Cond.selects RX7 yX7_atFirst yX7_atFirst ∈ gz_TB ∧ Cond.initialized yX7_atFirst.cls ∈ gz_TB ∧ Cond.code yX7_atFirst cX7_atFirst 2 (some (.int)) ∈ gz_TB ∧ (yX7_atFirst.cls ≠ "java/lang/invoke/MethodHandle" ∧ yX7_atFirst.cls ≠ "java/lang/invoke/VarHandle" ∧ (parseMethodDescriptor yX7_atFirst.desc).map (fun d => d.parameters.length) = some 1) := ⟨gz_in 649 (by decide +kernel) rfl, gz_in 650 (by decide +kernel) rfl, gz_in 91 (by decide +kernel) rfl, gz_in 651 (by decide +kernel) rfl, by decide +kernel⟩
theorem wm_RX7_63 : gz_WV RX7 63 RX7 yX7_atFirst cX7_atFirst 2 1 (some (.int)) := ⟨Or.inl (gz_in 832 (by decide +kernel) rfl), wc_yX7_atFirst⟩
theorem wm_RX7_67 : gz_WV RX7 67 RX5 yX5_get cX5_get 2 1 (some (.int)) := ⟨Or.inl (gz_in 833 (by decide +kernel) rfl), wc_yX5_get⟩
theorem wc_yX7_after : Cond.instanceMethod yX7_after ∈ gz_TB ∧ Cond.selects RX7 yX7_after yX7_after ∈ gz_TB ∧ Cond.initialized yX7_after.cls ∈ gz_TB ∧ Cond.code yX7_after cX7_after 5 (some (.int)) ∈ gz_TB ∧ (yX7_after.cls ≠ "java/lang/invoke/MethodHandle" ∧ yX7_after.cls ≠ "java/lang/invoke/VarHandle" ∧ (parseMethodDescriptor yX7_after.desc).map (fun d => d.parameters.length) = some 2) := ⟨gz_in 666 (by decide +kernel) rfl, gz_in 667 (by decide +kernel) rfl, gz_in 91 (by decide +kernel) rfl, gz_in 668 (by decide +kernel) rfl, by decide +kernel⟩
theorem wm_RX7_72 : gz_WV RX7 72 RX7 yX7_after cX7_after 5 2 (some (.int)) := ⟨Or.inl (gz_in 835 (by decide +kernel) rfl), wc_yX7_after⟩
theorem wf_RX7_15 : gz_FL RX7 15 RX7 "mode" "[I" := Or.inl (gz_in 218 (by decide +kernel) rfl)
theorem wf_RX7_28 : gz_FL RX7 28 RX7 "last" "[I" := Or.inl (gz_in 232 (by decide +kernel) rfl)
theorem wf_RX7_31 : gz_FL RX7 31 RX7 "empty" "[Z" := Or.inl (gz_in 235 (by decide +kernel) rfl)
theorem wf_RX7_19 : gz_FL RX7 19 RX7 "letters" "[I" := Or.inl (gz_in 221 (by decide +kernel) rfl)
theorem wf_RX0_9 : gz_FL RX0 9 RX0 "text" "[I" := Or.inl (gz_in 193 (by decide +kernel) rfl)
theorem wl_RX0_26 : Cond.methodLink RX0 26 arraycopyName ∈ gz_TB := gz_in 555 (by decide +kernel) rfl
theorem wf_RX0_15 : gz_FL RX0 15 RX0 "textLength" "I" := Or.inl (gz_in 195 (by decide +kernel) rfl)
theorem wf_RX0_22 : gz_FL RX0 22 RX0 "line" "LLongestTokens$Line;" := Or.inl (gz_in 197 (by decide +kernel) rfl)
theorem wc_yX5_copy : Cond.instanceMethod yX5_copy ∈ gz_TB ∧ Cond.selects RX5 yX5_copy yX5_copy ∈ gz_TB ∧ Cond.initialized yX5_copy.cls ∈ gz_TB ∧ Cond.code yX5_copy cX5_copy 2 none ∈ gz_TB ∧ (yX5_copy.cls ≠ "java/lang/invoke/MethodHandle" ∧ yX5_copy.cls ≠ "java/lang/invoke/VarHandle" ∧ (parseMethodDescriptor yX5_copy.desc).map (fun d => d.parameters.length) = some 1) := ⟨gz_in 559 (by decide +kernel) rfl, gz_in 560 (by decide +kernel) rfl, gz_in 90 (by decide +kernel) rfl, gz_in 561 (by decide +kernel) rfl, by decide +kernel⟩
theorem wm_RX0_32 : gz_WV RX0 32 RX5 yX5_copy cX5_copy 2 1 none := ⟨Or.inl (gz_in 558 (by decide +kernel) rfl), wc_yX5_copy⟩
theorem wf_RX0_36 : gz_FL RX0 36 RX10 "signs" "[I" := Or.inr ⟨"LongestTokens", gz_inN 121 (by decide +kernel) rfl⟩
theorem wf_RX0_41 : gz_FL RX0 41 RX10 "length" "I" := Or.inr ⟨"LongestTokens", gz_inN 125 (by decide +kernel) rfl⟩
def fJ_bitCount (a0 : Int32) (M0 : gz_M) : Option (Int32 × gz_M) := gz_lt (a0 - ((gz_ushr a0 1) &&& 1431655765)) fun v1 => gz_lt ((v1 &&& 858993459) + ((gz_ushr v1 2) &&& 858993459)) fun v2 => gz_lt ((v2 + (gz_ushr v2 4)) &&& 252645135) fun v3 => gz_lt (v3 + (gz_ushr v3 8)) fun v4 => gz_lt (v4 + (gz_ushr v4 16)) fun v5 => some (v5 &&& 63, M0)
set_option maxRecDepth 100000 in
theorem cJ_bitCount {cf : gz_CF} {pf : Nat → Bool} {l : Launch} {r : Int32} {M0 M' : gz_M} {a0 : Int32} (hf : fJ_bitCount a0 M0 = some (r, M')) : gz_CI l cf yJ6_bitCount_0f7a4 cJ6_bitCount_0f7a4 1 1 .int (fun _ => [.int a0]) pf M0 r M' := by
  refine gz_ofI (by decide +kernel) (fun _ => Nat.le_of_ble_eq_true rfl) (fun x X hc hE => ?_)
  show gz_At x 0 [(0, .int a0)] [] M0
  unfold fJ_bitCount at hf
  refine gr_iload_n X dJ6_bitCount_0f7a4_0 0 rfl rfl ?_
  refine gr_iload_n X dJ6_bitCount_0f7a4_1 0 rfl rfl ?_
  refine gr_iconst 1 X dJ6_bitCount_0f7a4_2 (by decide) ?_
  refine gr_iushr X dJ6_bitCount_0f7a4_3 ?_
  refine gr_ldc_w 1431655765 X dJ6_bitCount_0f7a4_4 wk_RJ6_265 ?_
  refine gr_iand X dJ6_bitCount_0f7a4_7 ?_
  refine gr_isub X dJ6_bitCount_0f7a4_8 ?_
  obtain ⟨v1, ev1, hf⟩ := gz_lte hf
  refine gr_istore_n [(0, .int v1)] X dJ6_bitCount_0f7a4_9 ev1 rfl (by decide) rfl ?_
  refine gr_iload_n X dJ6_bitCount_0f7a4_10 0 rfl rfl ?_
  refine gr_ldc_w 858993459 X dJ6_bitCount_0f7a4_11 wk_RJ6_266 ?_
  refine gr_iand X dJ6_bitCount_0f7a4_14 ?_
  refine gr_iload_n X dJ6_bitCount_0f7a4_15 0 rfl rfl ?_
  refine gr_iconst 2 X dJ6_bitCount_0f7a4_16 (by decide) ?_
  refine gr_iushr X dJ6_bitCount_0f7a4_17 ?_
  refine gr_ldc_w 858993459 X dJ6_bitCount_0f7a4_18 wk_RJ6_266 ?_
  refine gr_iand X dJ6_bitCount_0f7a4_21 ?_
  refine gr_iadd X dJ6_bitCount_0f7a4_22 ?_
  obtain ⟨v2, ev2, hf⟩ := gz_lte hf
  refine gr_istore_n [(0, .int v2)] X dJ6_bitCount_0f7a4_23 ev2 rfl (by decide) rfl ?_
  refine gr_iload_n X dJ6_bitCount_0f7a4_24 0 rfl rfl ?_
  refine gr_iload_n X dJ6_bitCount_0f7a4_25 0 rfl rfl ?_
  refine gr_iconst 4 X dJ6_bitCount_0f7a4_26 (by decide) ?_
  refine gr_iushr X dJ6_bitCount_0f7a4_27 ?_
  refine gr_iadd X dJ6_bitCount_0f7a4_28 ?_
  refine gr_ldc_w 252645135 X dJ6_bitCount_0f7a4_29 wk_RJ6_267 ?_
  refine gr_iand X dJ6_bitCount_0f7a4_32 ?_
  obtain ⟨v3, ev3, hf⟩ := gz_lte hf
  refine gr_istore_n [(0, .int v3)] X dJ6_bitCount_0f7a4_33 ev3 rfl (by decide) rfl ?_
  refine gr_iload_n X dJ6_bitCount_0f7a4_34 0 rfl rfl ?_
  refine gr_iload_n X dJ6_bitCount_0f7a4_35 0 rfl rfl ?_
  refine gr_bipush 8 X dJ6_bitCount_0f7a4_36 (by decide) ?_
  refine gr_iushr X dJ6_bitCount_0f7a4_38 ?_
  refine gr_iadd X dJ6_bitCount_0f7a4_39 ?_
  obtain ⟨v4, ev4, hf⟩ := gz_lte hf
  refine gr_istore_n [(0, .int v4)] X dJ6_bitCount_0f7a4_40 ev4 rfl (by decide) rfl ?_
  refine gr_iload_n X dJ6_bitCount_0f7a4_41 0 rfl rfl ?_
  refine gr_iload_n X dJ6_bitCount_0f7a4_42 0 rfl rfl ?_
  refine gr_bipush 16 X dJ6_bitCount_0f7a4_43 (by decide) ?_
  refine gr_iushr X dJ6_bitCount_0f7a4_45 ?_
  refine gr_iadd X dJ6_bitCount_0f7a4_46 ?_
  obtain ⟨v5, ev5, hf⟩ := gz_lte hf
  refine gr_istore_n [(0, .int v5)] X dJ6_bitCount_0f7a4_47 ev5 rfl (by decide) rfl ?_
  refine gr_iload_n X dJ6_bitCount_0f7a4_48 0 rfl rfl ?_
  refine gr_bipush 63 X dJ6_bitCount_0f7a4_49 (by decide) ?_
  refine gr_iand X dJ6_bitCount_0f7a4_51 ?_
  exact gz_EIu hE hf rfl dJ6_bitCount_0f7a4_52

def fJ_floorMod (a0 : Int32) (a1 : Int32) (M0 : gz_M) : Option (Int32 × gz_M) := gz_ck (!decide (a1 = 0)) <| gz_lt (gz_rem a0 a1) fun v2 => if 0 ≤ (a0 ^^^ a1) then (some (v2, M0)) else (if v2 = 0 then (some (v2, M0)) else (some (v2 + a1, M0)))
set_option maxRecDepth 100000 in
theorem cJ_floorMod {cf : gz_CF} {pf : Nat → Bool} {l : Launch} {r : Int32} {M0 M' : gz_M} {a0 : Int32} {a1 : Int32} (hf : fJ_floorMod a0 a1 M0 = some (r, M')) : gz_CI l cf yJ9_floorMod_7cf53 cJ9_floorMod_7cf53 3 1 .int (fun _ => [.int a0, .int a1]) pf M0 r M' := by
  refine gz_ofI (by decide +kernel) (fun _ => Nat.le_of_ble_eq_true rfl) (fun x X hc hE => ?_)
  show gz_At x 0 [(0, .int a0), (1, .int a1)] [] M0
  unfold fJ_floorMod at hf
  refine gr_iload_n X dJ9_floorMod_7cf53_0 0 rfl rfl ?_
  refine gr_iload_n X dJ9_floorMod_7cf53_1 1 rfl rfl ?_
  obtain ⟨h1, hf⟩ := gz_cke hf
  refine gr_irem X dJ9_floorMod_7cf53_2 (gz_nei h1) ?_
  obtain ⟨v2, ev2, hf⟩ := gz_lte hf
  refine gr_istore_n [(2, .int v2), (0, .int a0), (1, .int a1)] X dJ9_floorMod_7cf53_3 ev2 rfl (by decide) rfl ?_
  refine gr_iload_n X dJ9_floorMod_7cf53_4 1 rfl rfl ?_
  refine gr_iload_n X dJ9_floorMod_7cf53_5 2 rfl rfl ?_
  refine gr_ixor X dJ9_floorMod_7cf53_6 ?_
  refine gr_if_ge 18 X dJ9_floorMod_7cf53_7 (by decide) (fun h3 => ?_) (fun h3 => ?_)
  · rw [if_pos h3] at hf
    refine gr_iload_n X dJ9_floorMod_7cf53_18 0 rfl rfl ?_
    exact gz_EIu hE hf rfl dJ9_floorMod_7cf53_19
  · rw [if_neg h3] at hf
    refine gr_iload_n X dJ9_floorMod_7cf53_10 0 rfl rfl ?_
    refine gr_if_eq 18 X dJ9_floorMod_7cf53_11 (by decide) (fun h4 => ?_) (fun h4 => ?_)
    · rw [if_pos h4] at hf
      refine gr_iload_n X dJ9_floorMod_7cf53_18 0 rfl rfl ?_
      exact gz_EIu hE hf rfl dJ9_floorMod_7cf53_19
    · rw [if_neg h4] at hf
      refine gr_iload_n X dJ9_floorMod_7cf53_14 0 rfl rfl ?_
      refine gr_iload_n X dJ9_floorMod_7cf53_15 2 rfl rfl ?_
      refine gr_iadd X dJ9_floorMod_7cf53_16 ?_
      exact gz_EIu hE hf rfl dJ9_floorMod_7cf53_17

def fJ_fill_5 (k0 : Nat) (n0 : Nat) : Nat → Int32 → Int32 → Int32 → gz_M → Option (gz_M)
  | 0, _, _, _, _ => none
  | n + 1, x1, x2, x3, M0 => if x3 ≤ x2 then (some M0) else (gz_ck (gz_inb x2 n0) <| gz_lt (gz_w M0 k0 x2.toNatClampNeg x1) fun M3 => gz_lt (x2 + 1) fun v4 => fJ_fill_5 k0 n0 n x1 v4 x3 M3)
theorem bJ_fill_5 {x : gz_X} {cf : gz_CF} {pf : Nat → Bool} {l : Launch} {M' : gz_M} (X : gz_Ok x cJ7_fill_53178 RJ7 4 1 cf pf l) (hc : gx_cells x ≤ (gx_R x).cells ∧ gx_slots x ≤ (gx_R x).slots) (hE : gz_EV x cJ7_fill_53178 M') {k0 : Nat} {n0 : Nat} (hk0 : gz_KD cf pf k0 (gz_oI n0)) (hn0 : n0 < 2147483648) : ∀ (n : Nat) (x1 : Int32) (x2 : Int32) (x3 : Int32) (M0 : gz_M), fJ_fill_5 k0 n0 n x1 x2 x3 M0 = some M' → gz_At x 5 [(0, .ref (gx_ad x k0)), (1, .int x1), (2, .int x2), (3, .int x3)] [] M0 := by
  intro n
  induction n with
  | zero =>
    intro x1 x2 x3 M0  hf
    rw [fJ_fill_5] at hf
    cases hf
  | succ n ih =>
    intro x1 x2 x3 M0  hf
    rw [fJ_fill_5] at hf
    refine gr_iload_n X dJ7_fill_53178_5 2 rfl rfl ?_
    refine gr_iload_n X dJ7_fill_53178_6 3 rfl rfl ?_
    refine gr_icmp_ge 20 X dJ7_fill_53178_7 (by decide) (fun h1 => ?_) (fun h1 => ?_)
    · rw [if_pos h1] at hf
      exact gz_EVu hE hf dJ7_fill_53178_20
    · rw [if_neg h1] at hf
      refine gr_aload_n X dJ7_fill_53178_10 0 rfl rfl ?_
      refine gr_iload_n X dJ7_fill_53178_11 2 rfl rfl ?_
      refine gr_iload_n X dJ7_fill_53178_12 1 rfl rfl ?_
      obtain ⟨h2, hf⟩ := gz_cke hf
      obtain ⟨M3, eM3, hf⟩ := gz_lte hf
      refine gr_iastore X hk0 (gz_inp h2) eM3 dJ7_fill_53178_13 ?_
      obtain ⟨v4, ev4, hf⟩ := gz_lte hf
      refine gr_iinc 1 [(2, .int v4), (0, .ref (gx_ad x k0)), (1, .int x1), (3, .int x3)] X dJ7_fill_53178_14 2 rfl (by decide) ev4 (by decide) rfl ?_
      refine gr_goto 5 X dJ7_fill_53178_17 (by decide) ?_
      refine gr_sub (lv' := [(0, .ref (gx_ad x k0)), (1, .int x1), (2, .int v4), (3, .int x3)]) [1, 2, 0, 3] rfl ?_
      exact ih _ _ _ _ hf

def fJ_fill (k0 : Nat) (n0 : Nat) (a1 : Int32) (M0 : gz_M) : Option (gz_M) := gz_lt (Int32.ofNat n0) fun v1 => fJ_fill_5 k0 n0 gz_FU a1 0 v1 M0
set_option maxRecDepth 100000 in
theorem cJ_fill {cf : gz_CF} {pf : Nat → Bool} {l : Launch} {M0 M' : gz_M} {k0 : Nat} {n0 : Nat} {a1 : Int32} (hk0 : gz_KD cf pf k0 (gz_oI n0)) (hn0 : n0 < 2147483648) (hf : fJ_fill k0 n0 a1 M0 = some M') : gz_CV l cf yJ7_fill_53178 cJ7_fill_53178 4 1 (fun ad => [.ref (ad k0), .int a1]) pf M0 M' := by
  refine gz_ofV (by decide +kernel) (fun _ => Nat.le_of_ble_eq_true rfl) (fun x X hc hE => ?_)
  show gz_At x 0 [(0, .ref (gx_ad x k0)), (1, .int a1)] [] M0
  unfold fJ_fill at hf
  refine gr_iconst 0 X dJ7_fill_53178_0 (by decide) ?_
  refine gr_istore_n [(2, .int 0), (0, .ref (gx_ad x k0)), (1, .int a1)] X dJ7_fill_53178_1 rfl rfl (by decide) rfl ?_
  refine gr_aload_n X dJ7_fill_53178_2 1 rfl rfl ?_
  refine gr_arraylength X hk0 (Int32.ofNat n0) rfl dJ7_fill_53178_3 ?_
  obtain ⟨v1, ev1, hf⟩ := gz_lte hf
  refine gr_istore_n [(3, .int v1), (2, .int 0), (0, .ref (gx_ad x k0)), (1, .int a1)] X dJ7_fill_53178_4 ev1 rfl (by decide) rfl ?_
  refine gr_sub (lv' := [(0, .ref (gx_ad x k0)), (1, .int a1), (2, .int 0), (3, .int v1)]) [2, 3, 1, 0] rfl ?_
  exact bJ_fill_5 X hc hE hk0 hn0 _ _ _ _ _ hf

def f10_addFour_21 : Nat → Int32 → Int32 → gz_M → Option (Int32 × gz_M)
  | 0, _, _, _ => none
  | n + 1, x1, x2, M0 => if x2 < 0 then (some (1, M0)) else (gz_ck (gz_inb (M0.1 1 1) 80) <| gz_lt (gz_w M0 2 (M0.1 1 1).toNatClampNeg ((gz_ushr x1 x2) &&& 255)) fun M3 => gz_lt (gz_w M3 1 1 ((M3.1 1 1) + 1)) fun M4 => gz_lt (x2 + (-8)) fun v5 => f10_addFour_21 n x1 v5 M4)
theorem b10_addFour_21 {x : gz_X} {pf : Nat → Bool} {l : Launch} {r : Int32} {M' : gz_M} (X : gz_Ok x cX10_addFour RX10 3 1 gz_cfC pf l) (hc : gx_cells x ≤ (gx_R x).cells ∧ gx_slots x ≤ (gx_R x).slots) (hE : gz_EI x cX10_addFour .boolean r M') : ∀ (n : Nat) (x1 : Int32) (x2 : Int32) (M0 : gz_M), f10_addFour_21 n x1 x2 M0 = some (r, M') → gz_At x 21 [(0, .ref (gx_ad x 1)), (1, .int x1), (2, .int x2)] [] M0 := by
  intro n
  induction n with
  | zero =>
    intro x1 x2 M0  hf
    rw [f10_addFour_21] at hf
    cases hf
  | succ n ih =>
    intro x1 x2 M0  hf
    rw [f10_addFour_21] at hf
    refine gr_iload_n X dX10_addFour_21 2 rfl rfl ?_
    refine gr_if_lt 57 X dX10_addFour_22 (by decide) (fun h1 => ?_) (fun h1 => ?_)
    · rw [if_pos h1] at hf
      refine gr_iconst 1 X dX10_addFour_57 (by decide) ?_
      exact gz_EIu hE hf rfl dX10_addFour_58
    · rw [if_neg h1] at hf
      refine gr_aload_n X dX10_addFour_25 0 rfl rfl ?_
      refine gf10_0 X wf_RX10_9 dX10_addFour_26 ?_
      refine gr_aload_n X dX10_addFour_29 0 rfl rfl ?_
      refine gf10_1 X wf_RX10_15 dX10_addFour_30 ?_
      refine gr_iload_n X dX10_addFour_33 1 rfl rfl ?_
      refine gr_iload_n X dX10_addFour_34 2 rfl rfl ?_
      refine gr_iushr X dX10_addFour_35 ?_
      refine gr_sipush 255 X dX10_addFour_36 (by decide) ?_
      refine gr_iand X dX10_addFour_39 ?_
      obtain ⟨h2, hf⟩ := gz_cke hf
      obtain ⟨M3, eM3, hf⟩ := gz_lte hf
      refine gr_iastore X gk_C2 (gz_inp h2) eM3 dX10_addFour_40 ?_
      refine gr_aload_n X dX10_addFour_41 0 rfl rfl ?_
      refine gr_dup X dX10_addFour_42 rfl ?_
      refine gf10_1 X wf_RX10_15 dX10_addFour_43 ?_
      refine gr_iconst 1 X dX10_addFour_46 (by decide) ?_
      refine gr_iadd X dX10_addFour_47 ?_
      obtain ⟨M4, eM4, hf⟩ := gz_lte hf
      refine gp10_1 X wf_RX10_15 eM4 dX10_addFour_48 ?_
      obtain ⟨v5, ev5, hf⟩ := gz_lte hf
      refine gr_iinc (-8) [(2, .int v5), (0, .ref (gx_ad x 1)), (1, .int x1)] X dX10_addFour_51 2 rfl (by decide) ev5 (by decide) rfl ?_
      refine gr_goto 21 X dX10_addFour_54 (by decide) ?_
      refine gr_sub (lv' := [(0, .ref (gx_ad x 1)), (1, .int x1), (2, .int v5)]) [1, 2, 0] rfl ?_
      exact ih _ _ _ hf

def f10_addFour (a0 : Int32) (M0 : gz_M) : Option (Int32 × gz_M) := if (M0.1 1 1) < 0 then (some (0, M0)) else (if (M0.1 1 1) ≤ 76 then (f10_addFour_21 gz_FU a0 24 M0) else (some (0, M0)))
set_option maxRecDepth 100000 in
theorem c10_addFour {pf : Nat → Bool} {l : Launch} {r : Int32} {M0 M' : gz_M} {a0 : Int32} (hf : f10_addFour a0 M0 = some (r, M')) : gz_CI l gz_cfC yX10_addFour cX10_addFour 3 1 .boolean (fun ad => [.ref (ad 1), .int a0]) pf M0 r M' := by
  refine gz_ofI (by decide +kernel) (fun _ => Nat.le_of_ble_eq_true rfl) (fun x X hc hE => ?_)
  show gz_At x 0 [(0, .ref (gx_ad x 1)), (1, .int a0)] [] M0
  unfold f10_addFour at hf
  refine gr_aload_n X dX10_addFour_0 0 rfl rfl ?_
  refine gf10_1 X wf_RX10_15 dX10_addFour_1 ?_
  refine gr_if_lt 16 X dX10_addFour_4 (by decide) (fun h1 => ?_) (fun h1 => ?_)
  · rw [if_pos h1] at hf
    refine gr_iconst 0 X dX10_addFour_16 (by decide) ?_
    exact gz_EIu hE hf rfl dX10_addFour_17
  · rw [if_neg h1] at hf
    refine gr_aload_n X dX10_addFour_7 0 rfl rfl ?_
    refine gf10_1 X wf_RX10_15 dX10_addFour_8 ?_
    refine gr_bipush 76 X dX10_addFour_11 (by decide) ?_
    refine gr_icmp_le 18 X dX10_addFour_13 (by decide) (fun h2 => ?_) (fun h2 => ?_)
    · rw [if_pos h2] at hf
      refine gr_bipush 24 X dX10_addFour_18 (by decide) ?_
      refine gr_istore_n [(2, .int 24), (0, .ref (gx_ad x 1)), (1, .int a0)] X dX10_addFour_20 rfl rfl (by decide) rfl ?_
      refine gr_sub (lv' := [(0, .ref (gx_ad x 1)), (1, .int a0), (2, .int 24)]) [1, 2, 0] rfl ?_
      exact b10_addFour_21 X hc hE _ _ _ _ hf
    · rw [if_neg h2] at hf
      refine gr_iconst 0 X dX10_addFour_16 (by decide) ?_
      exact gz_EIu hE hf rfl dX10_addFour_17

def f10_shorten (a0 : Int32) (M0 : gz_M) : Option (Int32 × gz_M) := if a0 < 0 then (some (0, M0)) else (if a0 ≤ (M0.1 1 1) then (gz_lt (gz_w M0 1 1 a0) fun M3 => some (1, M3)) else (some (0, M0)))
set_option maxRecDepth 100000 in
theorem c10_shorten {pf : Nat → Bool} {l : Launch} {r : Int32} {M0 M' : gz_M} {a0 : Int32} (hf : f10_shorten a0 M0 = some (r, M')) : gz_CI l gz_cfC yX10_shorten cX10_shorten 2 1 .boolean (fun ad => [.ref (ad 1), .int a0]) pf M0 r M' := by
  refine gz_ofI (by decide +kernel) (fun _ => Nat.le_of_ble_eq_true rfl) (fun x X hc hE => ?_)
  show gz_At x 0 [(0, .ref (gx_ad x 1)), (1, .int a0)] [] M0
  unfold f10_shorten at hf
  refine gr_iload_n X dX10_shorten_0 1 rfl rfl ?_
  refine gr_if_lt 12 X dX10_shorten_1 (by decide) (fun h1 => ?_) (fun h1 => ?_)
  · rw [if_pos h1] at hf
    refine gr_iconst 0 X dX10_shorten_12 (by decide) ?_
    exact gz_EIu hE hf rfl dX10_shorten_13
  · rw [if_neg h1] at hf
    refine gr_iload_n X dX10_shorten_4 1 rfl rfl ?_
    refine gr_aload_n X dX10_shorten_5 0 rfl rfl ?_
    refine gf10_1 X wf_RX10_15 dX10_shorten_6 ?_
    refine gr_icmp_le 14 X dX10_shorten_9 (by decide) (fun h2 => ?_) (fun h2 => ?_)
    · rw [if_pos h2] at hf
      refine gr_aload_n X dX10_shorten_14 0 rfl rfl ?_
      refine gr_iload_n X dX10_shorten_15 1 rfl rfl ?_
      obtain ⟨M3, eM3, hf⟩ := gz_lte hf
      refine gp10_1 X wf_RX10_15 eM3 dX10_shorten_16 ?_
      refine gr_iconst 1 X dX10_shorten_19 (by decide) ?_
      exact gz_EIu hE hf rfl dX10_shorten_20
    · rw [if_neg h2] at hf
      refine gr_iconst 0 X dX10_shorten_12 (by decide) ?_
      exact gz_EIu hE hf rfl dX10_shorten_13

def f10_empty (M0 : gz_M) : Option (gz_M) := gz_lt (gz_w M0 1 1 0) fun M1 => some M1
set_option maxRecDepth 100000 in
theorem c10_empty {pf : Nat → Bool} {l : Launch} {M0 M' : gz_M} (hf : f10_empty M0 = some M') : gz_CV l gz_cfC yX10_empty cX10_empty 1 1 (fun ad => [.ref (ad 1)]) pf M0 M' := by
  refine gz_ofV (by decide +kernel) (fun _ => Nat.le_of_ble_eq_true rfl) (fun x X hc hE => ?_)
  show gz_At x 0 [(0, .ref (gx_ad x 1))] [] M0
  unfold f10_empty at hf
  refine gr_aload_n X dX10_empty_0 0 rfl rfl ?_
  refine gr_iconst 0 X dX10_empty_1 (by decide) ?_
  obtain ⟨M1, eM1, hf⟩ := gz_lte hf
  refine gp10_1 X wf_RX10_15 eM1 dX10_empty_2 ?_
  exact gz_EVu hE hf dX10_empty_5

def f10_get (a0 : Int32) (M0 : gz_M) : Option (Int32 × gz_M) := if a0 < 0 then (some ((-1), M0)) else (if (M0.1 1 1) ≤ a0 then (some ((-1), M0)) else (if 80 ≤ a0 then (some ((-1), M0)) else (gz_ck (gz_inb a0 80) <| some (M0.1 2 a0.toNatClampNeg, M0))))
set_option maxRecDepth 100000 in
theorem c10_get {pf : Nat → Bool} {l : Launch} {r : Int32} {M0 M' : gz_M} {a0 : Int32} (hf : f10_get a0 M0 = some (r, M')) : gz_CI l gz_cfC yX10_get cX10_get 2 1 .int (fun ad => [.ref (ad 1), .int a0]) pf M0 r M' := by
  refine gz_ofI (by decide +kernel) (fun _ => Nat.le_of_ble_eq_true rfl) (fun x X hc hE => ?_)
  show gz_At x 0 [(0, .ref (gx_ad x 1)), (1, .int a0)] [] M0
  unfold f10_get at hf
  refine gr_iload_n X dX10_get_0 1 rfl rfl ?_
  refine gr_if_lt 27 X dX10_get_1 (by decide) (fun h1 => ?_) (fun h1 => ?_)
  · rw [if_pos h1] at hf
    refine gr_iconst (-1) X dX10_get_27 (by decide) ?_
    exact gz_EIu hE hf rfl dX10_get_28
  · rw [if_neg h1] at hf
    refine gr_iload_n X dX10_get_4 1 rfl rfl ?_
    refine gr_aload_n X dX10_get_5 0 rfl rfl ?_
    refine gf10_1 X wf_RX10_15 dX10_get_6 ?_
    refine gr_icmp_ge 27 X dX10_get_9 (by decide) (fun h2 => ?_) (fun h2 => ?_)
    · rw [if_pos h2] at hf
      refine gr_iconst (-1) X dX10_get_27 (by decide) ?_
      exact gz_EIu hE hf rfl dX10_get_28
    · rw [if_neg h2] at hf
      refine gr_iload_n X dX10_get_12 1 rfl rfl ?_
      refine gr_bipush 80 X dX10_get_13 (by decide) ?_
      refine gr_icmp_ge 27 X dX10_get_15 (by decide) (fun h3 => ?_) (fun h3 => ?_)
      · rw [if_pos h3] at hf
        refine gr_iconst (-1) X dX10_get_27 (by decide) ?_
        exact gz_EIu hE hf rfl dX10_get_28
      · rw [if_neg h3] at hf
        refine gr_aload_n X dX10_get_18 0 rfl rfl ?_
        refine gf10_0 X wf_RX10_9 dX10_get_19 ?_
        refine gr_iload_n X dX10_get_22 1 rfl rfl ?_
        obtain ⟨h4, hf⟩ := gz_cke hf
        refine gr_iaload X gk_C2 (gz_inp h4) dX10_get_23 ?_
        refine gr_goto 28 X dX10_get_24 (by decide) ?_
        exact gz_EIu hE hf rfl dX10_get_28

def f5_has (k : Nat) (a0 : Int32) (M0 : gz_M) : Option (Int32 × gz_M) := if a0 < 0 then (some (0, M0)) else (if (M0.1 k 1) ≤ a0 then (some (0, M0)) else (some (1, M0)))
set_option maxRecDepth 100000 in
theorem c5_has {pf : Nat → Bool} {l : Launch} {r : Int32} {M0 M' : gz_M} {k : Nat} {a0 : Int32} (hk : gz_IsX5 pf k) (hf : f5_has k a0 M0 = some (r, M')) : gz_CI l gz_cfC yX5_has cX5_has 2 1 .boolean (fun ad => [.ref (ad k), .int a0]) pf M0 r M' := by
  refine gz_ofI (by decide +kernel) (fun _ => Nat.le_of_ble_eq_true rfl) (fun x X hc hE => ?_)
  show gz_At x 0 [(0, .ref (gx_ad x k)), (1, .int a0)] [] M0
  unfold f5_has at hf
  refine gr_iload_n X dX5_has_0 1 rfl rfl ?_
  refine gr_if_lt 16 X dX5_has_1 (by decide) (fun h1 => ?_) (fun h1 => ?_)
  · rw [if_pos h1] at hf
    refine gr_iconst 0 X dX5_has_16 (by decide) ?_
    exact gz_EIu hE hf rfl dX5_has_17
  · rw [if_neg h1] at hf
    refine gr_iload_n X dX5_has_4 1 rfl rfl ?_
    refine gr_aload_n X dX5_has_5 0 rfl rfl ?_
    refine gf5_1 X (gk_X5o hk) wf_RX5_15 dX5_has_6 ?_
    refine gr_icmp_ge 16 X dX5_has_9 (by decide) (fun h2 => ?_) (fun h2 => ?_)
    · rw [if_pos h2] at hf
      refine gr_iconst 0 X dX5_has_16 (by decide) ?_
      exact gz_EIu hE hf rfl dX5_has_17
    · rw [if_neg h2] at hf
      refine gr_iconst 1 X dX5_has_12 (by decide) ?_
      refine gr_goto 17 X dX5_has_13 (by decide) ?_
      exact gz_EIu hE hf rfl dX5_has_17

def f5_get (k : Nat) (a0 : Int32) (M0 : gz_M) : Option (Int32 × gz_M) := if a0 < 0 then (some ((-1), M0)) else (if (M0.1 k 1) ≤ a0 then (some ((-1), M0)) else (if 24 ≤ a0 then (some ((-1), M0)) else (gz_ck (gz_inb a0 24) <| some (M0.1 (k + 1) a0.toNatClampNeg, M0))))
set_option maxRecDepth 100000 in
theorem c5_get {pf : Nat → Bool} {l : Launch} {r : Int32} {M0 M' : gz_M} {k : Nat} {a0 : Int32} (hk : gz_IsX5 pf k) (hf : f5_get k a0 M0 = some (r, M')) : gz_CI l gz_cfC yX5_get cX5_get 2 1 .int (fun ad => [.ref (ad k), .int a0]) pf M0 r M' := by
  refine gz_ofI (by decide +kernel) (fun _ => Nat.le_of_ble_eq_true rfl) (fun x X hc hE => ?_)
  show gz_At x 0 [(0, .ref (gx_ad x k)), (1, .int a0)] [] M0
  unfold f5_get at hf
  refine gr_iload_n X dX5_get_0 1 rfl rfl ?_
  refine gr_if_lt 27 X dX5_get_1 (by decide) (fun h1 => ?_) (fun h1 => ?_)
  · rw [if_pos h1] at hf
    refine gr_iconst (-1) X dX5_get_27 (by decide) ?_
    exact gz_EIu hE hf rfl dX5_get_28
  · rw [if_neg h1] at hf
    refine gr_iload_n X dX5_get_4 1 rfl rfl ?_
    refine gr_aload_n X dX5_get_5 0 rfl rfl ?_
    refine gf5_1 X (gk_X5o hk) wf_RX5_15 dX5_get_6 ?_
    refine gr_icmp_ge 27 X dX5_get_9 (by decide) (fun h2 => ?_) (fun h2 => ?_)
    · rw [if_pos h2] at hf
      refine gr_iconst (-1) X dX5_get_27 (by decide) ?_
      exact gz_EIu hE hf rfl dX5_get_28
    · rw [if_neg h2] at hf
      refine gr_iload_n X dX5_get_12 1 rfl rfl ?_
      refine gr_bipush 24 X dX5_get_13 (by decide) ?_
      refine gr_icmp_ge 27 X dX5_get_15 (by decide) (fun h3 => ?_) (fun h3 => ?_)
      · rw [if_pos h3] at hf
        refine gr_iconst (-1) X dX5_get_27 (by decide) ?_
        exact gz_EIu hE hf rfl dX5_get_28
      · rw [if_neg h3] at hf
        refine gr_aload_n X dX5_get_18 0 rfl rfl ?_
        refine gf5_0 X (gk_X5o hk) wf_RX5_9 dX5_get_19 ?_
        refine gr_iload_n X dX5_get_22 1 rfl rfl ?_
        obtain ⟨h4, hf⟩ := gz_cke hf
        refine gr_iaload X (gk_X51 hk) (gz_inp h4) dX5_get_23 ?_
        refine gr_goto 28 X dX5_get_24 (by decide) ?_
        exact gz_EIu hE hf rfl dX5_get_28

def f5_copy (k : Nat) (k0 : Nat) (M0 : gz_M) : Option (gz_M) := gz_lt (gz_cp M0 (k0 + 1) (k + 1) 0 0 24) fun M1 => gz_lt (gz_w M1 k 1 (M1.1 k0 1)) fun M2 => some M2
set_option maxRecDepth 100000 in
theorem c5_copy {pf : Nat → Bool} {l : Launch} {M0 M' : gz_M} {k : Nat} {k0 : Nat} (hk : gz_IsX5 pf k) (hk0 : gz_IsX5 pf k0) (hf : f5_copy k k0 M0 = some M') : gz_CV l gz_cfC yX5_copy cX5_copy 2 1 (fun ad => [.ref (ad k), .ref (ad k0)]) pf M0 M' := by
  refine gz_ofV (by decide +kernel) (fun _ => Nat.le_of_ble_eq_true rfl) (fun x X hc hE => ?_)
  show gz_At x 0 [(0, .ref (gx_ad x k)), (1, .ref (gx_ad x k0))] [] M0
  unfold f5_copy at hf
  refine gr_aload_n X dX5_copy_0 1 rfl rfl ?_
  refine gf5_0 X (gk_X5o hk0) wf_RX5_9 dX5_copy_1 ?_
  refine gr_iconst 0 X dX5_copy_4 (by decide) ?_
  refine gr_aload_n X dX5_copy_5 0 rfl rfl ?_
  refine gf5_0 X (gk_X5o hk) wf_RX5_9 dX5_copy_6 ?_
  refine gr_iconst 0 X dX5_copy_9 (by decide) ?_
  refine gr_bipush 24 X dX5_copy_10 (by decide) ?_
  obtain ⟨M1, eM1, hf⟩ := gz_lte hf
  refine gr_acopy X (by decide) (gk_X51 hk0) (gk_X51 hk) wl_RX5_19 (sp := 0) (dp := 0) (n := 24) rfl rfl rfl (by decide) (by decide) (by decide) (by decide) (by decide) (Nat.le_of_ble_eq_true rfl) eM1 dX5_copy_12 ?_
  refine gr_aload_n X dX5_copy_15 0 rfl rfl ?_
  refine gr_aload_n X dX5_copy_16 1 rfl rfl ?_
  refine gf5_1 X (gk_X5o hk0) wf_RX5_15 dX5_copy_17 ?_
  obtain ⟨M2, eM2, hf⟩ := gz_lte hf
  refine gp5_1 X (gk_X5o hk) wf_RX5_15 eM2 dX5_copy_20 ?_
  exact gz_EVu hE hf dX5_copy_23

def f5_insert_27 (k : Nat) : Nat → Int32 → Int32 → Int32 → gz_M → Option (gz_M)
  | 0, _, _, _, _ => none
  | n + 1, x1, x2, x3, M0 => if x3 ≤ x1 then (gz_ck (gz_inb x1 24) <| gz_lt (gz_w M0 (k + 1) x1.toNatClampNeg x2) fun M3 => gz_lt (gz_w M3 k 1 ((M3.1 k 1) + 1)) fun M4 => some M4) else (gz_ck (gz_inb (x3 - 1) 24) <| gz_ck (gz_inb x3 24) <| gz_lt (gz_w M0 (k + 1) x3.toNatClampNeg (M0.1 (k + 1) (x3 - 1).toNatClampNeg)) fun M7 => gz_lt (x3 + (-1)) fun v8 => f5_insert_27 k n x1 x2 v8 M7)
theorem b5_insert_27 {x : gz_X} {pf : Nat → Bool} {l : Launch} {M' : gz_M} (X : gz_Ok x cX5_insert RX5 4 1 gz_cfC pf l) (hc : gx_cells x ≤ (gx_R x).cells ∧ gx_slots x ≤ (gx_R x).slots) (hE : gz_EV x cX5_insert M') {k : Nat} (hk : gz_IsX5 pf k) : ∀ (n : Nat) (x1 : Int32) (x2 : Int32) (x3 : Int32) (M0 : gz_M), f5_insert_27 k n x1 x2 x3 M0 = some M' → gz_At x 27 [(0, .ref (gx_ad x k)), (1, .int x1), (2, .int x2), (3, .int x3)] [] M0 := by
  intro n
  induction n with
  | zero =>
    intro x1 x2 x3 M0  hf
    rw [f5_insert_27] at hf
    cases hf
  | succ n ih =>
    intro x1 x2 x3 M0  hf
    rw [f5_insert_27] at hf
    refine gr_iload_n X dX5_insert_27 3 rfl rfl ?_
    refine gr_iload_n X dX5_insert_28 1 rfl rfl ?_
    refine gr_icmp_le 52 X dX5_insert_29 (by decide) (fun h1 => ?_) (fun h1 => ?_)
    · rw [if_pos h1] at hf
      refine gr_aload_n X dX5_insert_52 0 rfl rfl ?_
      refine gf5_0 X (gk_X5o hk) wf_RX5_9 dX5_insert_53 ?_
      refine gr_iload_n X dX5_insert_56 1 rfl rfl ?_
      refine gr_iload_n X dX5_insert_57 2 rfl rfl ?_
      obtain ⟨h2, hf⟩ := gz_cke hf
      obtain ⟨M3, eM3, hf⟩ := gz_lte hf
      refine gr_iastore X (gk_X51 hk) (gz_inp h2) eM3 dX5_insert_58 ?_
      refine gr_aload_n X dX5_insert_59 0 rfl rfl ?_
      refine gr_dup X dX5_insert_60 rfl ?_
      refine gf5_1 X (gk_X5o hk) wf_RX5_15 dX5_insert_61 ?_
      refine gr_iconst 1 X dX5_insert_64 (by decide) ?_
      refine gr_iadd X dX5_insert_65 ?_
      obtain ⟨M4, eM4, hf⟩ := gz_lte hf
      refine gp5_1 X (gk_X5o hk) wf_RX5_15 eM4 dX5_insert_66 ?_
      exact gz_EVu hE hf dX5_insert_69
    · rw [if_neg h1] at hf
      refine gr_aload_n X dX5_insert_32 0 rfl rfl ?_
      refine gf5_0 X (gk_X5o hk) wf_RX5_9 dX5_insert_33 ?_
      refine gr_iload_n X dX5_insert_36 3 rfl rfl ?_
      refine gr_aload_n X dX5_insert_37 0 rfl rfl ?_
      refine gf5_0 X (gk_X5o hk) wf_RX5_9 dX5_insert_38 ?_
      refine gr_iload_n X dX5_insert_41 3 rfl rfl ?_
      refine gr_iconst 1 X dX5_insert_42 (by decide) ?_
      refine gr_isub X dX5_insert_43 ?_
      obtain ⟨h5, hf⟩ := gz_cke hf
      refine gr_iaload X (gk_X51 hk) (gz_inp h5) dX5_insert_44 ?_
      obtain ⟨h6, hf⟩ := gz_cke hf
      obtain ⟨M7, eM7, hf⟩ := gz_lte hf
      refine gr_iastore X (gk_X51 hk) (gz_inp h6) eM7 dX5_insert_45 ?_
      obtain ⟨v8, ev8, hf⟩ := gz_lte hf
      refine gr_iinc (-1) [(3, .int v8), (0, .ref (gx_ad x k)), (1, .int x1), (2, .int x2)] X dX5_insert_46 3 rfl (by decide) ev8 (by decide) rfl ?_
      refine gr_goto 27 X dX5_insert_49 (by decide) ?_
      refine gr_sub (lv' := [(0, .ref (gx_ad x k)), (1, .int x1), (2, .int x2), (3, .int v8)]) [1, 2, 3, 0] rfl ?_
      exact ih _ _ _ _ hf

def f5_insert (k : Nat) (a0 : Int32) (a1 : Int32) (M0 : gz_M) : Option (gz_M) := if a0 < 0 then (some M0) else (if (M0.1 k 1) < a0 then (some M0) else (if (M0.1 k 1) < 24 then (gz_lt (M0.1 k 1) fun v4 => f5_insert_27 k gz_FU a0 a1 v4 M0) else (some M0)))
set_option maxRecDepth 100000 in
theorem c5_insert {pf : Nat → Bool} {l : Launch} {M0 M' : gz_M} {k : Nat} {a0 : Int32} {a1 : Int32} (hk : gz_IsX5 pf k) (hf : f5_insert k a0 a1 M0 = some M') : gz_CV l gz_cfC yX5_insert cX5_insert 4 1 (fun ad => [.ref (ad k), .int a0, .int a1]) pf M0 M' := by
  refine gz_ofV (by decide +kernel) (fun _ => Nat.le_of_ble_eq_true rfl) (fun x X hc hE => ?_)
  show gz_At x 0 [(0, .ref (gx_ad x k)), (1, .int a0), (2, .int a1)] [] M0
  unfold f5_insert at hf
  refine gr_iload_n X dX5_insert_0 1 rfl rfl ?_
  refine gr_if_lt 21 X dX5_insert_1 (by decide) (fun h1 => ?_) (fun h1 => ?_)
  · rw [if_pos h1] at hf
    exact gz_EVu hE hf dX5_insert_21
  · rw [if_neg h1] at hf
    refine gr_iload_n X dX5_insert_4 1 rfl rfl ?_
    refine gr_aload_n X dX5_insert_5 0 rfl rfl ?_
    refine gf5_1 X (gk_X5o hk) wf_RX5_15 dX5_insert_6 ?_
    refine gr_icmp_gt 21 X dX5_insert_9 (by decide) (fun h2 => ?_) (fun h2 => ?_)
    · rw [if_pos h2] at hf
      exact gz_EVu hE hf dX5_insert_21
    · rw [if_neg h2] at hf
      refine gr_aload_n X dX5_insert_12 0 rfl rfl ?_
      refine gf5_1 X (gk_X5o hk) wf_RX5_15 dX5_insert_13 ?_
      refine gr_bipush 24 X dX5_insert_16 (by decide) ?_
      refine gr_icmp_lt 22 X dX5_insert_18 (by decide) (fun h3 => ?_) (fun h3 => ?_)
      · rw [if_pos h3] at hf
        refine gr_aload_n X dX5_insert_22 0 rfl rfl ?_
        refine gf5_1 X (gk_X5o hk) wf_RX5_15 dX5_insert_23 ?_
        obtain ⟨v4, ev4, hf⟩ := gz_lte hf
        refine gr_istore_n [(3, .int v4), (0, .ref (gx_ad x k)), (1, .int a0), (2, .int a1)] X dX5_insert_26 ev4 rfl (by decide) rfl ?_
        refine gr_sub (lv' := [(0, .ref (gx_ad x k)), (1, .int a0), (2, .int a1), (3, .int v4)]) [1, 2, 3, 0] rfl ?_
        exact b5_insert_27 X hc hE hk _ _ _ _ _ hf
      · rw [if_neg h3] at hf
        exact gz_EVu hE hf dX5_insert_21

def f5_take_7 (k : Nat) : Nat → Int32 → gz_M → Option (gz_M)
  | 0, _, _ => none
  | n + 1, x2, M0 => if (M0.1 1 1) ≤ x2 then (some M0) else (gz_bd2 (f10_get x2 M0) fun v2 M3 => gz_bd (f5_insert k x2 (v2 - 97) M3) fun M5 => gz_lt (x2 + 1) fun v7 => f5_take_7 k n v7 M5)
theorem b5_take_7 {x : gz_X} {pf : Nat → Bool} {l : Launch} {M' : gz_M} (X : gz_Ok x cX5_take RX5 3 2 gz_cfC pf l) (hc : gx_cells x ≤ (gx_R x).cells ∧ gx_slots x ≤ (gx_R x).slots) (hE : gz_EV x cX5_take M') {k : Nat} (hk : gz_IsX5 pf k) : ∀ (n : Nat) (x2 : Int32) (M0 : gz_M), f5_take_7 k n x2 M0 = some M' → gz_At x 7 [(0, .ref (gx_ad x k)), (1, .ref (gx_ad x 1)), (2, .int x2)] [] M0 := by
  intro n
  induction n with
  | zero =>
    intro x2 M0  hf
    rw [f5_take_7] at hf
    cases hf
  | succ n ih =>
    intro x2 M0  hf
    rw [f5_take_7] at hf
    refine gr_iload_n X dX5_take_7 2 rfl rfl ?_
    refine gr_aload_n X dX5_take_8 1 rfl rfl ?_
    refine gf10_1 X wf_RX5_25 dX5_take_9 ?_
    refine gr_icmp_ge 34 X dX5_take_12 (by decide) (fun h1 => ?_) (fun h1 => ?_)
    · rw [if_pos h1] at hf
      exact gz_EVu hE hf dX5_take_34
    · rw [if_neg h1] at hf
      refine gr_aload_n X dX5_take_15 0 rfl rfl ?_
      refine gr_iload_n X dX5_take_16 2 rfl rfl ?_
      refine gr_aload_n X dX5_take_17 1 rfl rfl ?_
      refine gr_iload_n X dX5_take_18 2 rfl rfl ?_
      obtain ⟨v2, M3, q4, hf⟩ := gz_bd2e hf
      refine gr_callI (asF := fun ad => [.ref (ad 1), .int x2]) [.int x2] X (c10_get q4) rfl wm_RX5_28 rfl (X.kd gk_C1).1 ((X.kd gk_C1).2 _ _ _ _) rfl (by decide) (by decide) rfl (Nat.le_of_ble_eq_true rfl) hc dX5_take_19 ?_
      refine gr_bipush 97 X dX5_take_22 (by decide) ?_
      refine gr_isub X dX5_take_24 ?_
      obtain ⟨M5, q6, hf⟩ := gz_bde hf
      refine gr_callV (asF := fun ad => [.ref (ad k), .int x2, .int (v2 - 97)]) [.int x2, .int (v2 - 97)] X (c5_insert hk q6) rfl wm_RX5_32 rfl (X.kd (gk_X5o hk)).1 ((X.kd (gk_X5o hk)).2 _ _ _ _) rfl (by decide) (by decide) rfl (Nat.le_of_ble_eq_true rfl) hc dX5_take_25 ?_
      obtain ⟨v7, ev7, hf⟩ := gz_lte hf
      refine gr_iinc 1 [(2, .int v7), (0, .ref (gx_ad x k)), (1, .ref (gx_ad x 1))] X dX5_take_28 2 rfl (by decide) ev7 (by decide) rfl ?_
      refine gr_goto 7 X dX5_take_31 (by decide) ?_
      refine gr_sub (lv' := [(0, .ref (gx_ad x k)), (1, .ref (gx_ad x 1)), (2, .int v7)]) [1, 2, 0] rfl ?_
      exact ih _ _ hf

def f5_take (k : Nat) (M0 : gz_M) : Option (gz_M) := gz_lt (gz_w M0 k 1 0) fun M1 => f5_take_7 k gz_FU 0 M1
set_option maxRecDepth 100000 in
theorem c5_take {pf : Nat → Bool} {l : Launch} {M0 M' : gz_M} {k : Nat} (hk : gz_IsX5 pf k) (hf : f5_take k M0 = some M') : gz_CV l gz_cfC yX5_take cX5_take 3 2 (fun ad => [.ref (ad k), .ref (ad 1)]) pf M0 M' := by
  refine gz_ofV (by decide +kernel) (fun _ => Nat.le_of_ble_eq_true rfl) (fun x X hc hE => ?_)
  show gz_At x 0 [(0, .ref (gx_ad x k)), (1, .ref (gx_ad x 1))] [] M0
  unfold f5_take at hf
  refine gr_aload_n X dX5_take_0 0 rfl rfl ?_
  refine gr_iconst 0 X dX5_take_1 (by decide) ?_
  obtain ⟨M1, eM1, hf⟩ := gz_lte hf
  refine gp5_1 X (gk_X5o hk) wf_RX5_15 eM1 dX5_take_2 ?_
  refine gr_iconst 0 X dX5_take_5 (by decide) ?_
  refine gr_istore_n [(2, .int 0), (0, .ref (gx_ad x k)), (1, .ref (gx_ad x 1))] X dX5_take_6 rfl rfl (by decide) rfl ?_
  refine gr_sub (lv' := [(0, .ref (gx_ad x k)), (1, .ref (gx_ad x 1)), (2, .int 0)]) [1, 2, 0] rfl ?_
  exact b5_take_7 X hc hE hk _ _ _ hf

def f5_refusal_73 (k : Nat) (x1 : Int32) (M0 : gz_M) : Option (Int32 × gz_M) := if x1 = 1 then (if (M0.1 k 1) < 24 then (some (0, M0)) else (some ((-3), M0))) else (some (0, M0))
theorem b5_refusal_73 {x : gz_X} {pf : Nat → Bool} {l : Launch} {r : Int32} {M' : gz_M} (X : gz_Ok x cX5_refusal RX5 6 2 gz_cfC pf l) (hc : gx_cells x ≤ (gx_R x).cells ∧ gx_slots x ≤ (gx_R x).slots) (hE : gz_EI x cX5_refusal .int r M') {k : Nat} (hk : gz_IsX5 pf k) : ∀ (x1 : Int32) (M0 : gz_M), f5_refusal_73 k x1 M0 = some (r, M') → gz_At x 73 [(0, .ref (gx_ad x k)), (1, .int x1)] [] M0 := by
  intro x1 M0  hf
  rw [f5_refusal_73] at hf
  refine gr_iload_n X dX5_refusal_73 1 rfl rfl ?_
  refine gr_iconst 1 X dX5_refusal_74 (by decide) ?_
  refine gr_icmp_ne 92 X dX5_refusal_75 (by decide) (fun h1 => ?_) (fun h1 => ?_)
  · rw [if_pos h1] at hf
    refine gr_aload_n X dX5_refusal_78 0 rfl rfl ?_
    refine gf5_1 X (gk_X5o hk) wf_RX5_15 dX5_refusal_79 ?_
    refine gr_bipush 24 X dX5_refusal_82 (by decide) ?_
    refine gr_icmp_lt 92 X dX5_refusal_84 (by decide) (fun h2 => ?_) (fun h2 => ?_)
    · rw [if_pos h2] at hf
      refine gr_iconst 0 X dX5_refusal_92 (by decide) ?_
      exact gz_EIu hE hf rfl dX5_refusal_93
    · rw [if_neg h2] at hf
      refine gr_bipush (-3) X dX5_refusal_87 (by decide) ?_
      refine gr_goto 93 X dX5_refusal_89 (by decide) ?_
      exact gz_EIu hE hf rfl dX5_refusal_93
  · rw [if_neg h1] at hf
    refine gr_iconst 0 X dX5_refusal_92 (by decide) ?_
    exact gz_EIu hE hf rfl dX5_refusal_93

def f5_refusal_43 (k : Nat) (x1 : Int32) (x2 : Int32) (x3 : Int32) (x4 : Int32) (s0 : Int32) (M0 : gz_M) : Option (Int32 × gz_M) := if x4 = 0 then (some ((-1), M0)) else (if s0 = 0 then (some ((-1), M0)) else (if x1 = 0 then (gz_bd2 (f5_get k x2 M0) fun v4 M5 => if v4 = x3 then (some ((-2), M5)) else (f5_refusal_73 k x1 M5)) else (f5_refusal_73 k x1 M0)))
theorem b5_refusal_43 {x : gz_X} {pf : Nat → Bool} {l : Launch} {r : Int32} {M' : gz_M} (X : gz_Ok x cX5_refusal RX5 6 2 gz_cfC pf l) (hc : gx_cells x ≤ (gx_R x).cells ∧ gx_slots x ≤ (gx_R x).slots) (hE : gz_EI x cX5_refusal .int r M') {k : Nat} (hk : gz_IsX5 pf k) : ∀ (x1 : Int32) (x2 : Int32) (x3 : Int32) (x4 : Int32) (s0 : Int32) (M0 : gz_M), f5_refusal_43 k x1 x2 x3 x4 s0 M0 = some (r, M') → gz_At x 43 [(0, .ref (gx_ad x k)), (1, .int x1), (2, .int x2), (3, .int x3), (4, .int x4)] [.int s0] M0 := by
  intro x1 x2 x3 x4 s0 M0  hf
  rw [f5_refusal_43] at hf
  refine gr_istore [(5, .int s0), (0, .ref (gx_ad x k)), (1, .int x1), (2, .int x2), (3, .int x3), (4, .int x4)] X dX5_refusal_43 rfl (by decide) rfl ?_
  refine gr_iload X dX5_refusal_45 5 rfl ?_
  refine gr_if_eq 55 X dX5_refusal_47 (by decide) (fun h1 => ?_) (fun h1 => ?_)
  · rw [if_pos h1] at hf
    refine gr_iconst (-1) X dX5_refusal_55 (by decide) ?_
    exact gz_EIu hE hf rfl dX5_refusal_56
  · rw [if_neg h1] at hf
    refine gr_iload X dX5_refusal_50 0 rfl ?_
    refine gr_if_ne 57 X dX5_refusal_52 (by decide) (fun h2 => ?_) (fun h2 => ?_)
    · rw [if_pos h2] at hf
      refine gr_iconst (-1) X dX5_refusal_55 (by decide) ?_
      exact gz_EIu hE hf rfl dX5_refusal_56
    · rw [if_neg h2] at hf
      refine gr_iload_n X dX5_refusal_57 2 rfl rfl ?_
      refine gr_if_ne 73 X dX5_refusal_58 (by decide) (fun h3 => ?_) (fun h3 => ?_)
      · rw [if_pos h3] at hf
        refine gr_aload_n X dX5_refusal_61 1 rfl rfl ?_
        refine gr_iload_n X dX5_refusal_62 3 rfl rfl ?_
        obtain ⟨v4, M5, q6, hf⟩ := gz_bd2e hf
        refine gr_callI (asF := fun ad => [.ref (ad k), .int x2]) [.int x2] X (c5_get hk q6) rfl wm_RX5_40 rfl (X.kd (gk_X5o hk)).1 ((X.kd (gk_X5o hk)).2 _ _ _ _) rfl (by decide) (by decide) rfl (Nat.le_of_ble_eq_true rfl) hc dX5_refusal_63 ?_
        refine gr_iload_n X dX5_refusal_66 4 rfl rfl ?_
        refine gr_icmp_ne 73 X dX5_refusal_67 (by decide) (fun h7 => ?_) (fun h7 => ?_)
        · rw [if_pos h7] at hf
          refine gr_bipush (-2) X dX5_refusal_70 (by decide) ?_
          exact gz_EIu hE hf rfl dX5_refusal_72
        · rw [if_neg h7] at hf
          refine gr_sub (lv' := [(0, .ref (gx_ad x k)), (1, .int x1)]) [1, 2] rfl ?_
          exact b5_refusal_73 X hc hE hk _ _ hf
      · rw [if_neg h3] at hf
        refine gr_sub (lv' := [(0, .ref (gx_ad x k)), (1, .int x1)]) [1, 2] rfl ?_
        exact b5_refusal_73 X hc hE hk _ _ hf

def f5_refusal_26 (k : Nat) (x1 : Int32) (x2 : Int32) (x3 : Int32) (s0 : Int32) (M0 : gz_M) : Option (Int32 × gz_M) := if x3 < 0 then (f5_refusal_43 k x1 x2 x3 s0 0 M0) else (if 8 ≤ x3 then (f5_refusal_43 k x1 x2 x3 s0 0 M0) else (f5_refusal_43 k x1 x2 x3 s0 1 M0))
theorem b5_refusal_26 {x : gz_X} {pf : Nat → Bool} {l : Launch} {r : Int32} {M' : gz_M} (X : gz_Ok x cX5_refusal RX5 6 2 gz_cfC pf l) (hc : gx_cells x ≤ (gx_R x).cells ∧ gx_slots x ≤ (gx_R x).slots) (hE : gz_EI x cX5_refusal .int r M') {k : Nat} (hk : gz_IsX5 pf k) : ∀ (x1 : Int32) (x2 : Int32) (x3 : Int32) (s0 : Int32) (M0 : gz_M), f5_refusal_26 k x1 x2 x3 s0 M0 = some (r, M') → gz_At x 26 [(0, .ref (gx_ad x k)), (1, .int x1), (2, .int x2), (3, .int x3)] [.int s0] M0 := by
  intro x1 x2 x3 s0 M0  hf
  rw [f5_refusal_26] at hf
  refine gr_istore [(4, .int s0), (0, .ref (gx_ad x k)), (1, .int x1), (2, .int x2), (3, .int x3)] X dX5_refusal_26 rfl (by decide) rfl ?_
  refine gr_iload_n X dX5_refusal_28 4 rfl rfl ?_
  refine gr_if_lt 42 X dX5_refusal_29 (by decide) (fun h1 => ?_) (fun h1 => ?_)
  · rw [if_pos h1] at hf
    refine gr_iconst 0 X dX5_refusal_42 (by decide) ?_
    refine gr_sub (lv' := [(0, .ref (gx_ad x k)), (1, .int x1), (2, .int x2), (3, .int x3), (4, .int s0)]) [1, 2, 3, 4, 0] rfl ?_
    exact b5_refusal_43 X hc hE hk _ _ _ _ _ _ hf
  · rw [if_neg h1] at hf
    refine gr_iload_n X dX5_refusal_32 4 rfl rfl ?_
    refine gr_bipush 8 X dX5_refusal_33 (by decide) ?_
    refine gr_icmp_ge 42 X dX5_refusal_35 (by decide) (fun h2 => ?_) (fun h2 => ?_)
    · rw [if_pos h2] at hf
      refine gr_iconst 0 X dX5_refusal_42 (by decide) ?_
      refine gr_sub (lv' := [(0, .ref (gx_ad x k)), (1, .int x1), (2, .int x2), (3, .int x3), (4, .int s0)]) [1, 2, 3, 4, 0] rfl ?_
      exact b5_refusal_43 X hc hE hk _ _ _ _ _ _ hf
    · rw [if_neg h2] at hf
      refine gr_iconst 1 X dX5_refusal_38 (by decide) ?_
      refine gr_goto 43 X dX5_refusal_39 (by decide) ?_
      refine gr_sub (lv' := [(0, .ref (gx_ad x k)), (1, .int x1), (2, .int x2), (3, .int x3), (4, .int s0)]) [1, 2, 3, 4, 0] rfl ?_
      exact b5_refusal_43 X hc hE hk _ _ _ _ _ _ hf

def f5_refusal (k : Nat) (a0 : Int32) (a1 : Int32) (a2 : Int32) (M0 : gz_M) : Option (Int32 × gz_M) := gz_bd2 (f5_has k a1 M0) fun v1 M2 => if v1 = 0 then (if a0 = 1 then (if a1 = (M2.1 k 1) then (f5_refusal_26 k a0 a1 a2 1 M2) else (f5_refusal_26 k a0 a1 a2 0 M2)) else (f5_refusal_26 k a0 a1 a2 0 M2)) else (f5_refusal_26 k a0 a1 a2 1 M2)
set_option maxRecDepth 100000 in
theorem c5_refusal {pf : Nat → Bool} {l : Launch} {r : Int32} {M0 M' : gz_M} {k : Nat} {a0 : Int32} {a1 : Int32} {a2 : Int32} (hk : gz_IsX5 pf k) (hf : f5_refusal k a0 a1 a2 M0 = some (r, M')) : gz_CI l gz_cfC yX5_refusal cX5_refusal 6 2 .int (fun ad => [.ref (ad k), .int a0, .int a1, .int a2]) pf M0 r M' := by
  refine gz_ofI (by decide +kernel) (fun _ => Nat.le_of_ble_eq_true rfl) (fun x X hc hE => ?_)
  show gz_At x 0 [(0, .ref (gx_ad x k)), (1, .int a0), (2, .int a1), (3, .int a2)] [] M0
  unfold f5_refusal at hf
  refine gr_aload_n X dX5_refusal_0 0 rfl rfl ?_
  refine gr_iload_n X dX5_refusal_1 2 rfl rfl ?_
  obtain ⟨v1, M2, q3, hf⟩ := gz_bd2e hf
  refine gr_callI (asF := fun ad => [.ref (ad k), .int a1]) [.int a1] X (c5_has hk q3) rfl wm_RX5_36 rfl (X.kd (gk_X5o hk)).1 ((X.kd (gk_X5o hk)).2 _ _ _ _) rfl (by decide) (by decide) rfl (Nat.le_of_ble_eq_true rfl) hc dX5_refusal_2 ?_
  refine gr_if_ne 21 X dX5_refusal_5 (by decide) (fun h4 => ?_) (fun h4 => ?_)
  · rw [if_pos h4] at hf
    refine gr_iload_n X dX5_refusal_8 1 rfl rfl ?_
    refine gr_iconst 1 X dX5_refusal_9 (by decide) ?_
    refine gr_icmp_ne 25 X dX5_refusal_10 (by decide) (fun h5 => ?_) (fun h5 => ?_)
    · rw [if_pos h5] at hf
      refine gr_iload_n X dX5_refusal_13 2 rfl rfl ?_
      refine gr_aload_n X dX5_refusal_14 0 rfl rfl ?_
      refine gf5_1 X (gk_X5o hk) wf_RX5_15 dX5_refusal_15 ?_
      refine gr_icmp_ne 25 X dX5_refusal_18 (by decide) (fun h6 => ?_) (fun h6 => ?_)
      · rw [if_pos h6] at hf
        refine gr_iconst 1 X dX5_refusal_21 (by decide) ?_
        refine gr_goto 26 X dX5_refusal_22 (by decide) ?_
        exact b5_refusal_26 X hc hE hk _ _ _ _ _ hf
      · rw [if_neg h6] at hf
        refine gr_iconst 0 X dX5_refusal_25 (by decide) ?_
        exact b5_refusal_26 X hc hE hk _ _ _ _ _ hf
    · rw [if_neg h5] at hf
      refine gr_iconst 0 X dX5_refusal_25 (by decide) ?_
      exact b5_refusal_26 X hc hE hk _ _ _ _ _ hf
  · rw [if_neg h4] at hf
    refine gr_iconst 1 X dX5_refusal_21 (by decide) ?_
    refine gr_goto 26 X dX5_refusal_22 (by decide) ?_
    exact b5_refusal_26 X hc hE hk _ _ _ _ _ hf

def f5_put (k : Nat) (a0 : Int32) (a1 : Int32) (M0 : gz_M) : Option (gz_M) := if a0 < 0 then (some M0) else (if (M0.1 k 1) ≤ a0 then (some M0) else (if 24 ≤ a0 then (some M0) else (gz_ck (gz_inb a0 24) <| gz_lt (gz_w M0 (k + 1) a0.toNatClampNeg a1) fun M5 => some M5)))
set_option maxRecDepth 100000 in
theorem c5_put {pf : Nat → Bool} {l : Launch} {M0 M' : gz_M} {k : Nat} {a0 : Int32} {a1 : Int32} (hk : gz_IsX5 pf k) (hf : f5_put k a0 a1 M0 = some M') : gz_CV l gz_cfC yX5_put cX5_put 3 1 (fun ad => [.ref (ad k), .int a0, .int a1]) pf M0 M' := by
  refine gz_ofV (by decide +kernel) (fun _ => Nat.le_of_ble_eq_true rfl) (fun x X hc hE => ?_)
  show gz_At x 0 [(0, .ref (gx_ad x k)), (1, .int a0), (2, .int a1)] [] M0
  unfold f5_put at hf
  refine gr_iload_n X dX5_put_0 1 rfl rfl ?_
  refine gr_if_lt 25 X dX5_put_1 (by decide) (fun h1 => ?_) (fun h1 => ?_)
  · rw [if_pos h1] at hf
    exact gz_EVu hE hf dX5_put_25
  · rw [if_neg h1] at hf
    refine gr_iload_n X dX5_put_4 1 rfl rfl ?_
    refine gr_aload_n X dX5_put_5 0 rfl rfl ?_
    refine gf5_1 X (gk_X5o hk) wf_RX5_15 dX5_put_6 ?_
    refine gr_icmp_ge 25 X dX5_put_9 (by decide) (fun h2 => ?_) (fun h2 => ?_)
    · rw [if_pos h2] at hf
      exact gz_EVu hE hf dX5_put_25
    · rw [if_neg h2] at hf
      refine gr_iload_n X dX5_put_12 1 rfl rfl ?_
      refine gr_bipush 24 X dX5_put_13 (by decide) ?_
      refine gr_icmp_ge 25 X dX5_put_15 (by decide) (fun h3 => ?_) (fun h3 => ?_)
      · rw [if_pos h3] at hf
        exact gz_EVu hE hf dX5_put_25
      · rw [if_neg h3] at hf
        refine gr_aload_n X dX5_put_18 0 rfl rfl ?_
        refine gf5_0 X (gk_X5o hk) wf_RX5_9 dX5_put_19 ?_
        refine gr_iload_n X dX5_put_22 1 rfl rfl ?_
        refine gr_iload_n X dX5_put_23 2 rfl rfl ?_
        obtain ⟨h4, hf⟩ := gz_cke hf
        obtain ⟨M5, eM5, hf⟩ := gz_lte hf
        refine gr_iastore X (gk_X51 hk) (gz_inp h4) eM5 dX5_put_24 ?_
        exact gz_EVu hE hf dX5_put_25

def f5_remove_24 (k : Nat) : Nat → Int32 → gz_M → Option (gz_M)
  | 0, _, _ => none
  | n + 1, x2, M0 => if ((M0.1 k 1) - 1) ≤ x2 then (gz_lt (gz_w M0 k 1 ((M0.1 k 1) - 1)) fun M2 => some M2) else (gz_ck (gz_inb (x2 + 1) 24) <| gz_ck (gz_inb x2 24) <| gz_lt (gz_w M0 (k + 1) x2.toNatClampNeg (M0.1 (k + 1) (x2 + 1).toNatClampNeg)) fun M5 => gz_lt (x2 + 1) fun v6 => f5_remove_24 k n v6 M5)
theorem b5_remove_24 {x : gz_X} {pf : Nat → Bool} {l : Launch} {M' : gz_M} (X : gz_Ok x cX5_remove RX5 3 1 gz_cfC pf l) (hc : gx_cells x ≤ (gx_R x).cells ∧ gx_slots x ≤ (gx_R x).slots) (hE : gz_EV x cX5_remove M') {k : Nat} (hk : gz_IsX5 pf k) : ∀ (n : Nat) (x2 : Int32) (M0 : gz_M), f5_remove_24 k n x2 M0 = some M' → gz_At x 24 [(0, .ref (gx_ad x k)), (2, .int x2)] [] M0 := by
  intro n
  induction n with
  | zero =>
    intro x2 M0  hf
    rw [f5_remove_24] at hf
    cases hf
  | succ n ih =>
    intro x2 M0  hf
    rw [f5_remove_24] at hf
    refine gr_iload_n X dX5_remove_24 1 rfl rfl ?_
    refine gr_aload_n X dX5_remove_25 0 rfl rfl ?_
    refine gf5_1 X (gk_X5o hk) wf_RX5_15 dX5_remove_26 ?_
    refine gr_iconst 1 X dX5_remove_29 (by decide) ?_
    refine gr_isub X dX5_remove_30 ?_
    refine gr_icmp_ge 54 X dX5_remove_31 (by decide) (fun h1 => ?_) (fun h1 => ?_)
    · rw [if_pos h1] at hf
      refine gr_aload_n X dX5_remove_54 0 rfl rfl ?_
      refine gr_dup X dX5_remove_55 rfl ?_
      refine gf5_1 X (gk_X5o hk) wf_RX5_15 dX5_remove_56 ?_
      refine gr_iconst 1 X dX5_remove_59 (by decide) ?_
      refine gr_isub X dX5_remove_60 ?_
      obtain ⟨M2, eM2, hf⟩ := gz_lte hf
      refine gp5_1 X (gk_X5o hk) wf_RX5_15 eM2 dX5_remove_61 ?_
      exact gz_EVu hE hf dX5_remove_64
    · rw [if_neg h1] at hf
      refine gr_aload_n X dX5_remove_34 0 rfl rfl ?_
      refine gf5_0 X (gk_X5o hk) wf_RX5_9 dX5_remove_35 ?_
      refine gr_iload_n X dX5_remove_38 1 rfl rfl ?_
      refine gr_aload_n X dX5_remove_39 0 rfl rfl ?_
      refine gf5_0 X (gk_X5o hk) wf_RX5_9 dX5_remove_40 ?_
      refine gr_iload_n X dX5_remove_43 1 rfl rfl ?_
      refine gr_iconst 1 X dX5_remove_44 (by decide) ?_
      refine gr_iadd X dX5_remove_45 ?_
      obtain ⟨h3, hf⟩ := gz_cke hf
      refine gr_iaload X (gk_X51 hk) (gz_inp h3) dX5_remove_46 ?_
      obtain ⟨h4, hf⟩ := gz_cke hf
      obtain ⟨M5, eM5, hf⟩ := gz_lte hf
      refine gr_iastore X (gk_X51 hk) (gz_inp h4) eM5 dX5_remove_47 ?_
      obtain ⟨v6, ev6, hf⟩ := gz_lte hf
      refine gr_iinc 1 [(2, .int v6), (0, .ref (gx_ad x k))] X dX5_remove_48 1 rfl (by decide) ev6 (by decide) rfl ?_
      refine gr_goto 24 X dX5_remove_51 (by decide) ?_
      refine gr_sub (lv' := [(0, .ref (gx_ad x k)), (2, .int v6)]) [1, 0] rfl ?_
      exact ih _ _ hf

def f5_remove (k : Nat) (a0 : Int32) (M0 : gz_M) : Option (gz_M) := if a0 < 0 then (some M0) else (if (M0.1 k 1) ≤ a0 then (some M0) else (if (M0.1 k 1) ≤ 24 then (f5_remove_24 k gz_FU a0 M0) else (some M0)))
set_option maxRecDepth 100000 in
theorem c5_remove {pf : Nat → Bool} {l : Launch} {M0 M' : gz_M} {k : Nat} {a0 : Int32} (hk : gz_IsX5 pf k) (hf : f5_remove k a0 M0 = some M') : gz_CV l gz_cfC yX5_remove cX5_remove 3 1 (fun ad => [.ref (ad k), .int a0]) pf M0 M' := by
  refine gz_ofV (by decide +kernel) (fun _ => Nat.le_of_ble_eq_true rfl) (fun x X hc hE => ?_)
  show gz_At x 0 [(0, .ref (gx_ad x k)), (1, .int a0)] [] M0
  unfold f5_remove at hf
  refine gr_iload_n X dX5_remove_0 1 rfl rfl ?_
  refine gr_if_lt 21 X dX5_remove_1 (by decide) (fun h1 => ?_) (fun h1 => ?_)
  · rw [if_pos h1] at hf
    exact gz_EVu hE hf dX5_remove_21
  · rw [if_neg h1] at hf
    refine gr_iload_n X dX5_remove_4 1 rfl rfl ?_
    refine gr_aload_n X dX5_remove_5 0 rfl rfl ?_
    refine gf5_1 X (gk_X5o hk) wf_RX5_15 dX5_remove_6 ?_
    refine gr_icmp_ge 21 X dX5_remove_9 (by decide) (fun h2 => ?_) (fun h2 => ?_)
    · rw [if_pos h2] at hf
      exact gz_EVu hE hf dX5_remove_21
    · rw [if_neg h2] at hf
      refine gr_aload_n X dX5_remove_12 0 rfl rfl ?_
      refine gf5_1 X (gk_X5o hk) wf_RX5_15 dX5_remove_13 ?_
      refine gr_bipush 24 X dX5_remove_16 (by decide) ?_
      refine gr_icmp_le 22 X dX5_remove_18 (by decide) (fun h3 => ?_) (fun h3 => ?_)
      · rw [if_pos h3] at hf
        refine gr_iload_n X dX5_remove_22 1 rfl rfl ?_
        refine gr_istore_n [(2, .int a0), (0, .ref (gx_ad x k)), (1, .int a0)] X dX5_remove_23 rfl rfl (by decide) rfl ?_
        refine gr_sub (lv' := [(0, .ref (gx_ad x k)), (2, .int a0)]) [1, 0] rfl ?_
        exact b5_remove_24 X hc hE hk _ _ _ hf
      · rw [if_neg h3] at hf
        exact gz_EVu hE hf dX5_remove_21

def f5_change (k : Nat) (a0 : Int32) (a1 : Int32) (a2 : Int32) (M0 : gz_M) : Option (gz_M) := gz_bd2 (f5_refusal k a0 a1 a2 M0) fun v1 M2 => if 0 ≤ v1 then (if a0 = 0 then (gz_bd (f5_put k a1 a2 M2) fun M6 => some M6) else (if a0 = 1 then (gz_bd (f5_insert k a1 a2 M2) fun M9 => some M9) else (gz_bd (f5_remove k a1 M2) fun M11 => some M11))) else (some M2)
set_option maxRecDepth 100000 in
theorem c5_change {pf : Nat → Bool} {l : Launch} {M0 M' : gz_M} {k : Nat} {a0 : Int32} {a1 : Int32} {a2 : Int32} (hk : gz_IsX5 pf k) (hf : f5_change k a0 a1 a2 M0 = some M') : gz_CV l gz_cfC yX5_change cX5_change 4 3 (fun ad => [.ref (ad k), .int a0, .int a1, .int a2]) pf M0 M' := by
  refine gz_ofV (by decide +kernel) (fun _ => Nat.le_of_ble_eq_true rfl) (fun x X hc hE => ?_)
  show gz_At x 0 [(0, .ref (gx_ad x k)), (1, .int a0), (2, .int a1), (3, .int a2)] [] M0
  unfold f5_change at hf
  refine gr_aload_n X dX5_change_0 0 rfl rfl ?_
  refine gr_iload_n X dX5_change_1 1 rfl rfl ?_
  refine gr_iload_n X dX5_change_2 2 rfl rfl ?_
  refine gr_iload_n X dX5_change_3 3 rfl rfl ?_
  obtain ⟨v1, M2, q3, hf⟩ := gz_bd2e hf
  refine gr_callI (asF := fun ad => [.ref (ad k), .int a0, .int a1, .int a2]) [.int a0, .int a1, .int a2] X (c5_refusal hk q3) rfl wm_RX5_41 rfl (X.kd (gk_X5o hk)).1 ((X.kd (gk_X5o hk)).2 _ _ _ _) rfl (by decide) (by decide) rfl (Nat.le_of_ble_eq_true rfl) hc dX5_change_4 ?_
  refine gr_if_ge 11 X dX5_change_7 (by decide) (fun h4 => ?_) (fun h4 => ?_)
  · rw [if_pos h4] at hf
    refine gr_iload_n X dX5_change_11 1 rfl rfl ?_
    refine gr_if_ne 24 X dX5_change_12 (by decide) (fun h5 => ?_) (fun h5 => ?_)
    · rw [if_pos h5] at hf
      refine gr_aload_n X dX5_change_15 0 rfl rfl ?_
      refine gr_iload_n X dX5_change_16 2 rfl rfl ?_
      refine gr_iload_n X dX5_change_17 3 rfl rfl ?_
      obtain ⟨M6, q7, hf⟩ := gz_bde hf
      refine gr_callV (asF := fun ad => [.ref (ad k), .int a1, .int a2]) [.int a1, .int a2] X (c5_put hk q7) rfl wm_RX5_45 rfl (X.kd (gk_X5o hk)).1 ((X.kd (gk_X5o hk)).2 _ _ _ _) rfl (by decide) (by decide) rfl (Nat.le_of_ble_eq_true rfl) hc dX5_change_18 ?_
      refine gr_goto 43 X dX5_change_21 (by decide) ?_
      exact gz_EVu hE hf dX5_change_43
    · rw [if_neg h5] at hf
      refine gr_iload_n X dX5_change_24 1 rfl rfl ?_
      refine gr_iconst 1 X dX5_change_25 (by decide) ?_
      refine gr_icmp_ne 38 X dX5_change_26 (by decide) (fun h8 => ?_) (fun h8 => ?_)
      · rw [if_pos h8] at hf
        refine gr_aload_n X dX5_change_29 0 rfl rfl ?_
        refine gr_iload_n X dX5_change_30 2 rfl rfl ?_
        refine gr_iload_n X dX5_change_31 3 rfl rfl ?_
        obtain ⟨M9, q10, hf⟩ := gz_bde hf
        refine gr_callV (asF := fun ad => [.ref (ad k), .int a1, .int a2]) [.int a1, .int a2] X (c5_insert hk q10) rfl wm_RX5_32 rfl (X.kd (gk_X5o hk)).1 ((X.kd (gk_X5o hk)).2 _ _ _ _) rfl (by decide) (by decide) rfl (Nat.le_of_ble_eq_true rfl) hc dX5_change_32 ?_
        refine gr_goto 43 X dX5_change_35 (by decide) ?_
        exact gz_EVu hE hf dX5_change_43
      · rw [if_neg h8] at hf
        refine gr_aload_n X dX5_change_38 0 rfl rfl ?_
        refine gr_iload_n X dX5_change_39 2 rfl rfl ?_
        obtain ⟨M11, q12, hf⟩ := gz_bde hf
        refine gr_callV (asF := fun ad => [.ref (ad k), .int a1]) [.int a1] X (c5_remove hk q12) rfl wm_RX5_48 rfl (X.kd (gk_X5o hk)).1 ((X.kd (gk_X5o hk)).2 _ _ _ _) rfl (by decide) (by decide) rfl (Nat.le_of_ble_eq_true rfl) hc dX5_change_40 ?_
        exact gz_EVu hE hf dX5_change_43
  · rw [if_neg h4] at hf
    exact gz_EVu hE hf dX5_change_10

def f3_dueInNextRule (M0 : gz_M) : Option (Int32 × gz_M) := gz_lt (gz_w M0 3 1 ((M0.1 3 1) + 1)) fun M1 => if 8 ≤ (M1.1 3 1) then (some ((-1), M1)) else (some (0, M1))
set_option maxRecDepth 100000 in
theorem c3_dueInNextRule {pf : Nat → Bool} {l : Launch} {r : Int32} {M0 M' : gz_M} (hf : f3_dueInNextRule M0 = some (r, M')) : gz_CI l gz_cfC yX3_dueInNextRule cX3_dueInNextRule 1 1 .int (fun ad => [.ref (ad 3)]) pf M0 r M' := by
  refine gz_ofI (by decide +kernel) (fun _ => Nat.le_of_ble_eq_true rfl) (fun x X hc hE => ?_)
  show gz_At x 0 [(0, .ref (gx_ad x 3))] [] M0
  unfold f3_dueInNextRule at hf
  refine gr_aload_n X dX3_dueInNextRule_0 0 rfl rfl ?_
  refine gr_dup X dX3_dueInNextRule_1 rfl ?_
  refine gf3_1 X wf_RX3_15 dX3_dueInNextRule_2 ?_
  refine gr_iconst 1 X dX3_dueInNextRule_5 (by decide) ?_
  refine gr_iadd X dX3_dueInNextRule_6 ?_
  obtain ⟨M1, eM1, hf⟩ := gz_lte hf
  refine gp3_1 X wf_RX3_15 eM1 dX3_dueInNextRule_7 ?_
  refine gr_aload_n X dX3_dueInNextRule_10 0 rfl rfl ?_
  refine gf3_1 X wf_RX3_15 dX3_dueInNextRule_11 ?_
  refine gr_bipush 8 X dX3_dueInNextRule_14 (by decide) ?_
  refine gr_icmp_ge 23 X dX3_dueInNextRule_16 (by decide) (fun h2 => ?_) (fun h2 => ?_)
  · rw [if_pos h2] at hf
    refine gr_iconst (-1) X dX3_dueInNextRule_23 (by decide) ?_
    exact gz_EIu hE hf rfl dX3_dueInNextRule_24
  · rw [if_neg h2] at hf
    refine gr_iconst 0 X dX3_dueInNextRule_19 (by decide) ?_
    refine gr_goto 24 X dX3_dueInNextRule_20 (by decide) ?_
    exact gz_EIu hE hf rfl dX3_dueInNextRule_24

def f3_isSign (a0 : Int32) (M0 : gz_M) : Option (Int32 × gz_M) := if a0 < 97 then (some (0, M0)) else (if 104 < a0 then (some (0, M0)) else (some (1, M0)))
set_option maxRecDepth 100000 in
theorem c3_isSign {pf : Nat → Bool} {l : Launch} {r : Int32} {M0 M' : gz_M} {a0 : Int32} (hf : f3_isSign a0 M0 = some (r, M')) : gz_CI l gz_cfC yX3_isSign cX3_isSign 1 1 .boolean (fun _ => [.int a0]) pf M0 r M' := by
  refine gz_ofI (by decide +kernel) (fun _ => Nat.le_of_ble_eq_true rfl) (fun x X hc hE => ?_)
  show gz_At x 0 [(0, .int a0)] [] M0
  unfold f3_isSign at hf
  refine gr_iload_n X dX3_isSign_0 0 rfl rfl ?_
  refine gr_bipush 97 X dX3_isSign_1 (by decide) ?_
  refine gr_icmp_lt 16 X dX3_isSign_3 (by decide) (fun h1 => ?_) (fun h1 => ?_)
  · rw [if_pos h1] at hf
    refine gr_iconst 0 X dX3_isSign_16 (by decide) ?_
    exact gz_EIu hE hf rfl dX3_isSign_17
  · rw [if_neg h1] at hf
    refine gr_iload_n X dX3_isSign_6 0 rfl rfl ?_
    refine gr_bipush 104 X dX3_isSign_7 (by decide) ?_
    refine gr_icmp_gt 16 X dX3_isSign_9 (by decide) (fun h2 => ?_) (fun h2 => ?_)
    · rw [if_pos h2] at hf
      refine gr_iconst 0 X dX3_isSign_16 (by decide) ?_
      exact gz_EIu hE hf rfl dX3_isSign_17
    · rw [if_neg h2] at hf
      refine gr_iconst 1 X dX3_isSign_12 (by decide) ?_
      refine gr_goto 17 X dX3_isSign_13 (by decide) ?_
      exact gz_EIu hE hf rfl dX3_isSign_17

def f3_isLetter (a0 : Int32) (M0 : gz_M) : Option (Int32 × gz_M) := if a0 = 46 then (some (1, M0)) else (gz_bd2 (f3_isSign a0 M0) fun v2 M3 => if v2 = 0 then (some (0, M3)) else (some (1, M3)))
set_option maxRecDepth 100000 in
theorem c3_isLetter {pf : Nat → Bool} {l : Launch} {r : Int32} {M0 M' : gz_M} {a0 : Int32} (hf : f3_isLetter a0 M0 = some (r, M')) : gz_CI l gz_cfC yX3_isLetter cX3_isLetter 1 2 .boolean (fun _ => [.int a0]) pf M0 r M' := by
  refine gz_ofI (by decide +kernel) (fun _ => Nat.le_of_ble_eq_true rfl) (fun x X hc hE => ?_)
  show gz_At x 0 [(0, .int a0)] [] M0
  unfold f3_isLetter at hf
  refine gr_iload_n X dX3_isLetter_0 0 rfl rfl ?_
  refine gr_bipush 46 X dX3_isLetter_1 (by decide) ?_
  refine gr_icmp_eq 13 X dX3_isLetter_3 (by decide) (fun h1 => ?_) (fun h1 => ?_)
  · rw [if_pos h1] at hf
    refine gr_iconst 1 X dX3_isLetter_13 (by decide) ?_
    refine gr_goto 18 X dX3_isLetter_14 (by decide) ?_
    exact gz_EIu hE hf rfl dX3_isLetter_18
  · rw [if_neg h1] at hf
    refine gr_iload_n X dX3_isLetter_6 0 rfl rfl ?_
    obtain ⟨v2, M3, q4, hf⟩ := gz_bd2e hf
    refine gr_callSI (asF := fun _ => [.int a0]) [.int a0] X (c3_isSign q4) rfl wm_RX3_35 rfl (by decide) (by decide) rfl (Nat.le_of_ble_eq_true rfl) hc dX3_isLetter_7 ?_
    refine gr_if_eq 17 X dX3_isLetter_10 (by decide) (fun h5 => ?_) (fun h5 => ?_)
    · rw [if_pos h5] at hf
      refine gr_iconst 0 X dX3_isLetter_17 (by decide) ?_
      exact gz_EIu hE hf rfl dX3_isLetter_18
    · rw [if_neg h5] at hf
      refine gr_iconst 1 X dX3_isLetter_13 (by decide) ?_
      refine gr_goto 18 X dX3_isLetter_14 (by decide) ?_
      exact gz_EIu hE hf rfl dX3_isLetter_18

def f3_dueInPart (a0 : Int32) (M0 : gz_M) : Option (Int32 × gz_M) := gz_bd2 (f3_isLetter a0 M0) fun v1 M2 => if v1 = 0 then (if a0 = 40 then (if (M2.1 3 0) < 6 then (gz_lt (gz_w M2 3 0 ((M2.1 3 0) + 1)) fun M7 => some (2, M7)) else (some ((-1), M2))) else (some ((-1), M2))) else (some (3, M2))
set_option maxRecDepth 100000 in
theorem c3_dueInPart {pf : Nat → Bool} {l : Launch} {r : Int32} {M0 M' : gz_M} {a0 : Int32} (hf : f3_dueInPart a0 M0 = some (r, M')) : gz_CI l gz_cfC yX3_dueInPart cX3_dueInPart 2 3 .int (fun ad => [.ref (ad 3), .int a0]) pf M0 r M' := by
  refine gz_ofI (by decide +kernel) (fun _ => Nat.le_of_ble_eq_true rfl) (fun x X hc hE => ?_)
  show gz_At x 0 [(0, .ref (gx_ad x 3)), (1, .int a0)] [] M0
  unfold f3_dueInPart at hf
  refine gr_iload_n X dX3_dueInPart_0 1 rfl rfl ?_
  obtain ⟨v1, M2, q3, hf⟩ := gz_bd2e hf
  refine gr_callSI (asF := fun _ => [.int a0]) [.int a0] X (c3_isLetter q3) rfl wm_RX3_58 rfl (by decide) (by decide) rfl (Nat.le_of_ble_eq_true rfl) hc dX3_dueInPart_1 ?_
  refine gr_if_eq 9 X dX3_dueInPart_4 (by decide) (fun h4 => ?_) (fun h4 => ?_)
  · rw [if_pos h4] at hf
    refine gr_iload_n X dX3_dueInPart_9 1 rfl rfl ?_
    refine gr_bipush 40 X dX3_dueInPart_10 (by decide) ?_
    refine gr_icmp_ne 24 X dX3_dueInPart_12 (by decide) (fun h5 => ?_) (fun h5 => ?_)
    · rw [if_pos h5] at hf
      refine gr_aload_n X dX3_dueInPart_15 0 rfl rfl ?_
      refine gf3_0 X wf_RX3_9 dX3_dueInPart_16 ?_
      refine gr_bipush 6 X dX3_dueInPart_19 (by decide) ?_
      refine gr_icmp_lt 26 X dX3_dueInPart_21 (by decide) (fun h6 => ?_) (fun h6 => ?_)
      · rw [if_pos h6] at hf
        refine gr_aload_n X dX3_dueInPart_26 0 rfl rfl ?_
        refine gr_dup X dX3_dueInPart_27 rfl ?_
        refine gf3_0 X wf_RX3_9 dX3_dueInPart_28 ?_
        refine gr_iconst 1 X dX3_dueInPart_31 (by decide) ?_
        refine gr_iadd X dX3_dueInPart_32 ?_
        obtain ⟨M7, eM7, hf⟩ := gz_lte hf
        refine gp3_0 X wf_RX3_9 eM7 dX3_dueInPart_33 ?_
        refine gr_iconst 2 X dX3_dueInPart_36 (by decide) ?_
        exact gz_EIu hE hf rfl dX3_dueInPart_37
      · rw [if_neg h6] at hf
        refine gr_iconst (-1) X dX3_dueInPart_24 (by decide) ?_
        exact gz_EIu hE hf rfl dX3_dueInPart_25
    · rw [if_neg h5] at hf
      refine gr_iconst (-1) X dX3_dueInPart_24 (by decide) ?_
      exact gz_EIu hE hf rfl dX3_dueInPart_25
  · rw [if_neg h4] at hf
    refine gr_iconst 3 X dX3_dueInPart_7 (by decide) ?_
    exact gz_EIu hE hf rfl dX3_dueInPart_8

def f3_dueBehindPart_13 (x1 : Int32) (M0 : gz_M) : Option (Int32 × gz_M) := gz_bd2 (f3_dueInPart x1 M0) fun v1 M2 => some (v1, M2)
theorem b3_dueBehindPart_13 {x : gz_X} {pf : Nat → Bool} {l : Launch} {r : Int32} {M' : gz_M} (X : gz_Ok x cX3_dueBehindPart RX3 2 4 gz_cfC pf l) (hc : gx_cells x ≤ (gx_R x).cells ∧ gx_slots x ≤ (gx_R x).slots) (hE : gz_EI x cX3_dueBehindPart .int r M') : ∀ (x1 : Int32) (M0 : gz_M), f3_dueBehindPart_13 x1 M0 = some (r, M') → gz_At x 13 [(0, .ref (gx_ad x 3)), (1, .int x1)] [] M0 := by
  intro x1 M0  hf
  rw [f3_dueBehindPart_13] at hf
  refine gr_aload_n X dX3_dueBehindPart_13 0 rfl rfl ?_
  refine gr_iload_n X dX3_dueBehindPart_14 1 rfl rfl ?_
  obtain ⟨v1, M2, q3, hf⟩ := gz_bd2e hf
  refine gr_callI (asF := fun ad => [.ref (ad 3), .int x1]) [.int x1] X (c3_dueInPart q3) rfl wm_RX3_48 rfl (X.kd gk_C3).1 ((X.kd gk_C3).2 _ _ _ _) rfl (by decide) (by decide) rfl (Nat.le_of_ble_eq_true rfl) hc dX3_dueBehindPart_15 ?_
  exact gz_EIu hE hf rfl dX3_dueBehindPart_18

def f3_dueBehindPart_144 (M0 : gz_M) : Option (Int32 × gz_M) := if (M0.1 3 0) = 0 then (some (4, M0)) else (some ((-1), M0))
theorem b3_dueBehindPart_144 {x : gz_X} {pf : Nat → Bool} {l : Launch} {r : Int32} {M' : gz_M} (X : gz_Ok x cX3_dueBehindPart RX3 2 4 gz_cfC pf l) (hc : gx_cells x ≤ (gx_R x).cells ∧ gx_slots x ≤ (gx_R x).slots) (hE : gz_EI x cX3_dueBehindPart .int r M') : ∀ (M0 : gz_M), f3_dueBehindPart_144 M0 = some (r, M') → gz_At x 144 [(0, .ref (gx_ad x 3))] [] M0 := by
  intro  M0  hf
  rw [f3_dueBehindPart_144] at hf
  refine gr_aload_n X dX3_dueBehindPart_144 0 rfl rfl ?_
  refine gf3_0 X wf_RX3_9 dX3_dueBehindPart_145 ?_
  refine gr_if_ne 155 X dX3_dueBehindPart_148 (by decide) (fun h1 => ?_) (fun h1 => ?_)
  · rw [if_pos h1] at hf
    refine gr_iconst 4 X dX3_dueBehindPart_151 (by decide) ?_
    refine gr_goto 156 X dX3_dueBehindPart_152 (by decide) ?_
    exact gz_EIu hE hf rfl dX3_dueBehindPart_156
  · rw [if_neg h1] at hf
    refine gr_iconst (-1) X dX3_dueBehindPart_155 (by decide) ?_
    exact gz_EIu hE hf rfl dX3_dueBehindPart_156

def f3_dueBehindPart (a0 : Int32) (M0 : gz_M) : Option (Int32 × gz_M) := gz_bd2 (f3_isLetter a0 M0) fun v1 M2 => if v1 = 0 then (if a0 = 40 then (f3_dueBehindPart_13 a0 M2) else (if a0 = 41 then (gz_lt (gz_w M2 3 0 ((M2.1 3 0) - 1)) fun M7 => if 0 ≤ (M7.1 3 0) then (some (3, M7)) else (some ((-1), M7))) else if a0 = 42 then (some (3, M2)) else if a0 = 43 then (some (3, M2)) else if a0 = 59 then (if (M2.1 3 0) = 0 then (gz_bd2 (f3_dueInNextRule M2) fun v13 M14 => some (v13, M14)) else (some ((-1), M2))) else if a0 = 60 then (if (M2.1 3 0) = 0 then (some (5, M2)) else (some ((-1), M2))) else if a0 = 61 then (f3_dueBehindPart_144 M2) else if a0 = 62 then (f3_dueBehindPart_144 M2) else if a0 = 63 then (some (3, M2)) else if a0 = 124 then (some (2, M2)) else (some ((-1), M2)))) else (f3_dueBehindPart_13 a0 M2)
set_option maxRecDepth 100000 in
theorem c3_dueBehindPart {pf : Nat → Bool} {l : Launch} {r : Int32} {M0 M' : gz_M} {a0 : Int32} (hf : f3_dueBehindPart a0 M0 = some (r, M')) : gz_CI l gz_cfC yX3_dueBehindPart cX3_dueBehindPart 2 4 .int (fun ad => [.ref (ad 3), .int a0]) pf M0 r M' := by
  refine gz_ofI (by decide +kernel) (fun _ => Nat.le_of_ble_eq_true rfl) (fun x X hc hE => ?_)
  show gz_At x 0 [(0, .ref (gx_ad x 3)), (1, .int a0)] [] M0
  unfold f3_dueBehindPart at hf
  refine gr_iload_n X dX3_dueBehindPart_0 1 rfl rfl ?_
  obtain ⟨v1, M2, q3, hf⟩ := gz_bd2e hf
  refine gr_callSI (asF := fun _ => [.int a0]) [.int a0] X (c3_isLetter q3) rfl wm_RX3_58 rfl (by decide) (by decide) rfl (Nat.le_of_ble_eq_true rfl) hc dX3_dueBehindPart_1 ?_
  refine gr_if_ne 13 X dX3_dueBehindPart_4 (by decide) (fun h4 => ?_) (fun h4 => ?_)
  · rw [if_pos h4] at hf
    refine gr_iload_n X dX3_dueBehindPart_7 1 rfl rfl ?_
    refine gr_bipush 40 X dX3_dueBehindPart_8 (by decide) ?_
    refine gr_icmp_ne 19 X dX3_dueBehindPart_10 (by decide) (fun h5 => ?_) (fun h5 => ?_)
    · rw [if_pos h5] at hf
      exact b3_dueBehindPart_13 X hc hE _ _ hf
    · rw [if_neg h5] at hf
      refine gr_iload_n X dX3_dueBehindPart_19 1 rfl rfl ?_
      by_cases h6 : a0 = 41
      · rw [if_pos h6] at hf
        refine gr_lsIn 41 88 108 X dX3_dueBehindPart_20 h6 (by decide) (by decide) (by decide) ?_
        refine gr_aload_n X dX3_dueBehindPart_108 0 rfl rfl ?_
        refine gr_dup X dX3_dueBehindPart_109 rfl ?_
        refine gf3_0 X wf_RX3_9 dX3_dueBehindPart_110 ?_
        refine gr_iconst 1 X dX3_dueBehindPart_113 (by decide) ?_
        refine gr_isub X dX3_dueBehindPart_114 ?_
        obtain ⟨M7, eM7, hf⟩ := gz_lte hf
        refine gp3_0 X wf_RX3_9 eM7 dX3_dueBehindPart_115 ?_
        refine gr_aload_n X dX3_dueBehindPart_118 0 rfl rfl ?_
        refine gf3_0 X wf_RX3_9 dX3_dueBehindPart_119 ?_
        refine gr_if_ge 129 X dX3_dueBehindPart_122 (by decide) (fun h8 => ?_) (fun h8 => ?_)
        · rw [if_pos h8] at hf
          refine gr_iconst 3 X dX3_dueBehindPart_129 (by decide) ?_
          exact gz_EIu hE hf rfl dX3_dueBehindPart_130
        · rw [if_neg h8] at hf
          refine gr_iconst (-1) X dX3_dueBehindPart_125 (by decide) ?_
          refine gr_goto 130 X dX3_dueBehindPart_126 (by decide) ?_
          exact gz_EIu hE hf rfl dX3_dueBehindPart_130
      rw [if_neg h6] at hf
      by_cases h9 : a0 = 42
      · rw [if_pos h9] at hf
        refine gr_lsIn 42 84 104 X dX3_dueBehindPart_20 h9 (by decide) (by decide) (by decide) ?_
        refine gr_iconst 3 X dX3_dueBehindPart_104 (by decide) ?_
        exact gz_EIu hE hf rfl dX3_dueBehindPart_105
      rw [if_neg h9] at hf
      by_cases h10 : a0 = 43
      · rw [if_pos h10] at hf
        refine gr_lsIn 43 84 104 X dX3_dueBehindPart_20 h10 (by decide) (by decide) (by decide) ?_
        refine gr_iconst 3 X dX3_dueBehindPart_104 (by decide) ?_
        exact gz_EIu hE hf rfl dX3_dueBehindPart_105
      rw [if_neg h10] at hf
      by_cases h11 : a0 = 59
      · rw [if_pos h11] at hf
        refine gr_lsIn 59 137 157 X dX3_dueBehindPart_20 h11 (by decide) (by decide) (by decide) ?_
        refine gr_aload_n X dX3_dueBehindPart_157 0 rfl rfl ?_
        refine gf3_0 X wf_RX3_9 dX3_dueBehindPart_158 ?_
        refine gr_if_ne 171 X dX3_dueBehindPart_161 (by decide) (fun h12 => ?_) (fun h12 => ?_)
        · rw [if_pos h12] at hf
          refine gr_aload_n X dX3_dueBehindPart_164 0 rfl rfl ?_
          obtain ⟨v13, M14, q15, hf⟩ := gz_bd2e hf
          refine gr_callI (asF := fun ad => [.ref (ad 3)]) [] X (c3_dueInNextRule q15) rfl wm_RX3_54 rfl (X.kd gk_C3).1 ((X.kd gk_C3).2 _ _ _ _) rfl (by decide) (by decide) rfl (Nat.le_of_ble_eq_true rfl) hc dX3_dueBehindPart_165 ?_
          refine gr_goto 172 X dX3_dueBehindPart_168 (by decide) ?_
          exact gz_EIu hE hf rfl dX3_dueBehindPart_172
        · rw [if_neg h12] at hf
          refine gr_iconst (-1) X dX3_dueBehindPart_171 (by decide) ?_
          exact gz_EIu hE hf rfl dX3_dueBehindPart_172
      rw [if_neg h11] at hf
      by_cases h16 : a0 = 60
      · rw [if_pos h16] at hf
        refine gr_lsIn 60 111 131 X dX3_dueBehindPart_20 h16 (by decide) (by decide) (by decide) ?_
        refine gr_aload_n X dX3_dueBehindPart_131 0 rfl rfl ?_
        refine gf3_0 X wf_RX3_9 dX3_dueBehindPart_132 ?_
        refine gr_if_ne 142 X dX3_dueBehindPart_135 (by decide) (fun h17 => ?_) (fun h17 => ?_)
        · rw [if_pos h17] at hf
          refine gr_iconst 5 X dX3_dueBehindPart_138 (by decide) ?_
          refine gr_goto 143 X dX3_dueBehindPart_139 (by decide) ?_
          exact gz_EIu hE hf rfl dX3_dueBehindPart_143
        · rw [if_neg h17] at hf
          refine gr_iconst (-1) X dX3_dueBehindPart_142 (by decide) ?_
          exact gz_EIu hE hf rfl dX3_dueBehindPart_143
      rw [if_neg h16] at hf
      by_cases h18 : a0 = 61
      · rw [if_pos h18] at hf
        refine gr_lsIn 61 124 144 X dX3_dueBehindPart_20 h18 (by decide) (by decide) (by decide) ?_
        refine gr_sub (lv' := [(0, .ref (gx_ad x 3))]) [0] rfl ?_
        exact b3_dueBehindPart_144 X hc hE  _ hf
      rw [if_neg h18] at hf
      by_cases h19 : a0 = 62
      · rw [if_pos h19] at hf
        refine gr_lsIn 62 124 144 X dX3_dueBehindPart_20 h19 (by decide) (by decide) (by decide) ?_
        refine gr_sub (lv' := [(0, .ref (gx_ad x 3))]) [0] rfl ?_
        exact b3_dueBehindPart_144 X hc hE  _ hf
      rw [if_neg h19] at hf
      by_cases h20 : a0 = 63
      · rw [if_pos h20] at hf
        refine gr_lsIn 63 84 104 X dX3_dueBehindPart_20 h20 (by decide) (by decide) (by decide) ?_
        refine gr_iconst 3 X dX3_dueBehindPart_104 (by decide) ?_
        exact gz_EIu hE hf rfl dX3_dueBehindPart_105
      rw [if_neg h20] at hf
      by_cases h21 : a0 = 124
      · rw [if_pos h21] at hf
        refine gr_lsIn 124 86 106 X dX3_dueBehindPart_20 h21 (by decide) (by decide) (by decide) ?_
        refine gr_iconst 2 X dX3_dueBehindPart_106 (by decide) ?_
        exact gz_EIu hE hf rfl dX3_dueBehindPart_107
      rw [if_neg h21] at hf
      refine gr_lsOut 153 173 X dX3_dueBehindPart_20 (by decide) (by simp only [Op.lookupswitch.offset_cons, Op.lookupswitch.offset_nil]; rw [if_neg (gz_kne 41 h6 (by decide)), if_neg (gz_kne 42 h9 (by decide)), if_neg (gz_kne 43 h10 (by decide)), if_neg (gz_kne 59 h11 (by decide)), if_neg (gz_kne 60 h16 (by decide)), if_neg (gz_kne 61 h18 (by decide)), if_neg (gz_kne 62 h19 (by decide)), if_neg (gz_kne 63 h20 (by decide)), if_neg (gz_kne 124 h21 (by decide))]) (by decide) ?_
      refine gr_iconst (-1) X dX3_dueBehindPart_173 (by decide) ?_
      exact gz_EIu hE hf rfl dX3_dueBehindPart_174
  · rw [if_neg h4] at hf
    exact b3_dueBehindPart_13 X hc hE _ _ hf

def f3_isModeDigit (a0 : Int32) (M0 : gz_M) : Option (Int32 × gz_M) := if a0 < 48 then (some (0, M0)) else (if 51 < a0 then (some (0, M0)) else (some (1, M0)))
set_option maxRecDepth 100000 in
theorem c3_isModeDigit {pf : Nat → Bool} {l : Launch} {r : Int32} {M0 M' : gz_M} {a0 : Int32} (hf : f3_isModeDigit a0 M0 = some (r, M')) : gz_CI l gz_cfC yX3_isModeDigit cX3_isModeDigit 1 1 .boolean (fun _ => [.int a0]) pf M0 r M' := by
  refine gz_ofI (by decide +kernel) (fun _ => Nat.le_of_ble_eq_true rfl) (fun x X hc hE => ?_)
  show gz_At x 0 [(0, .int a0)] [] M0
  unfold f3_isModeDigit at hf
  refine gr_iload_n X dX3_isModeDigit_0 0 rfl rfl ?_
  refine gr_bipush 48 X dX3_isModeDigit_1 (by decide) ?_
  refine gr_icmp_lt 16 X dX3_isModeDigit_3 (by decide) (fun h1 => ?_) (fun h1 => ?_)
  · rw [if_pos h1] at hf
    refine gr_iconst 0 X dX3_isModeDigit_16 (by decide) ?_
    exact gz_EIu hE hf rfl dX3_isModeDigit_17
  · rw [if_neg h1] at hf
    refine gr_iload_n X dX3_isModeDigit_6 0 rfl rfl ?_
    refine gr_bipush 51 X dX3_isModeDigit_7 (by decide) ?_
    refine gr_icmp_gt 16 X dX3_isModeDigit_9 (by decide) (fun h2 => ?_) (fun h2 => ?_)
    · rw [if_pos h2] at hf
      refine gr_iconst 0 X dX3_isModeDigit_16 (by decide) ?_
      exact gz_EIu hE hf rfl dX3_isModeDigit_17
    · rw [if_neg h2] at hf
      refine gr_iconst 1 X dX3_isModeDigit_12 (by decide) ?_
      refine gr_goto 17 X dX3_isModeDigit_13 (by decide) ?_
      exact gz_EIu hE hf rfl dX3_isModeDigit_17

def f3_dueBehind (a0 : Int32) (a1 : Int32) (M0 : gz_M) : Option (Int32 × gz_M) := if a0.toInt < 0 ∨ 4 < a0.toInt then (if a1 = 59 then (gz_bd2 (f3_dueInNextRule M0) fun v3 M4 => some (v3, M4)) else (some ((-1), M0))) else if a0 = 0 then (gz_bd2 (f3_isModeDigit a1 M0) fun v7 M8 => if v7 = 0 then (some ((-1), M8)) else (some (1, M8))) else if a0 = 1 then (if a1 = 58 then (some (2, M0)) else (some ((-1), M0))) else if a0 = 2 then (gz_bd2 (f3_dueInPart a1 M0) fun v14 M15 => some (v14, M15)) else if a0 = 3 then (gz_bd2 (f3_dueBehindPart a1 M0) fun v18 M19 => some (v18, M19)) else if a0 = 4 then (gz_bd2 (f3_isModeDigit a1 M0) fun v22 M23 => if v22 = 0 then (some ((-1), M23)) else (some (5, M23))) else none
set_option maxRecDepth 100000 in
theorem c3_dueBehind {pf : Nat → Bool} {l : Launch} {r : Int32} {M0 M' : gz_M} {a0 : Int32} {a1 : Int32} (hf : f3_dueBehind a0 a1 M0 = some (r, M')) : gz_CI l gz_cfC yX3_dueBehind cX3_dueBehind 3 5 .int (fun ad => [.ref (ad 3), .int a0, .int a1]) pf M0 r M' := by
  refine gz_ofI (by decide +kernel) (fun _ => Nat.le_of_ble_eq_true rfl) (fun x X hc hE => ?_)
  show gz_At x 0 [(0, .ref (gx_ad x 3)), (1, .int a0), (2, .int a1)] [] M0
  unfold f3_dueBehind at hf
  refine gr_iload_n X dX3_dueBehind_0 1 rfl rfl ?_
  by_cases h1 : a0.toInt < 0 ∨ 4 < a0.toInt
  · rw [if_pos h1] at hf
    refine gr_tsOut 86 X dX3_dueBehind_1 h1 (by decide) ?_
    refine gr_iload_n X dX3_dueBehind_86 2 rfl rfl ?_
    refine gr_bipush 59 X dX3_dueBehind_87 (by decide) ?_
    refine gr_icmp_ne 99 X dX3_dueBehind_89 (by decide) (fun h2 => ?_) (fun h2 => ?_)
    · rw [if_pos h2] at hf
      refine gr_aload_n X dX3_dueBehind_92 0 rfl rfl ?_
      obtain ⟨v3, M4, q5, hf⟩ := gz_bd2e hf
      refine gr_callI (asF := fun ad => [.ref (ad 3)]) [] X (c3_dueInNextRule q5) rfl wm_RX3_54 rfl (X.kd gk_C3).1 ((X.kd gk_C3).2 _ _ _ _) rfl (by decide) (by decide) rfl (Nat.le_of_ble_eq_true rfl) hc dX3_dueBehind_93 ?_
      refine gr_goto 100 X dX3_dueBehind_96 (by decide) ?_
      exact gz_EIu hE hf rfl dX3_dueBehind_100
    · rw [if_neg h2] at hf
      refine gr_iconst (-1) X dX3_dueBehind_99 (by decide) ?_
      exact gz_EIu hE hf rfl dX3_dueBehind_100
  rw [if_neg h1] at hf
  by_cases h6 : a0 = 0
  · rw [if_pos h6] at hf
    refine gr_tsIn 0 35 36 X dX3_dueBehind_1 h6 (by decide) (by decide) (by decide) (by decide) ?_
    refine gr_iload_n X dX3_dueBehind_36 2 rfl rfl ?_
    obtain ⟨v7, M8, q9, hf⟩ := gz_bd2e hf
    refine gr_callSI (asF := fun _ => [.int a1]) [.int a1] X (c3_isModeDigit q9) rfl wm_RX3_45 rfl (by decide) (by decide) rfl (Nat.le_of_ble_eq_true rfl) hc dX3_dueBehind_37 ?_
    refine gr_if_eq 47 X dX3_dueBehind_40 (by decide) (fun h10 => ?_) (fun h10 => ?_)
    · rw [if_pos h10] at hf
      refine gr_iconst (-1) X dX3_dueBehind_47 (by decide) ?_
      exact gz_EIu hE hf rfl dX3_dueBehind_48
    · rw [if_neg h10] at hf
      refine gr_iconst 1 X dX3_dueBehind_43 (by decide) ?_
      refine gr_goto 48 X dX3_dueBehind_44 (by decide) ?_
      exact gz_EIu hE hf rfl dX3_dueBehind_48
  rw [if_neg h6] at hf
  by_cases h11 : a0 = 1
  · rw [if_pos h11] at hf
    refine gr_tsIn 1 48 49 X dX3_dueBehind_1 h11 (by decide) (by decide) (by decide) (by decide) ?_
    refine gr_iload_n X dX3_dueBehind_49 2 rfl rfl ?_
    refine gr_bipush 58 X dX3_dueBehind_50 (by decide) ?_
    refine gr_icmp_ne 59 X dX3_dueBehind_52 (by decide) (fun h12 => ?_) (fun h12 => ?_)
    · rw [if_pos h12] at hf
      refine gr_iconst 2 X dX3_dueBehind_55 (by decide) ?_
      refine gr_goto 60 X dX3_dueBehind_56 (by decide) ?_
      exact gz_EIu hE hf rfl dX3_dueBehind_60
    · rw [if_neg h12] at hf
      refine gr_iconst (-1) X dX3_dueBehind_59 (by decide) ?_
      exact gz_EIu hE hf rfl dX3_dueBehind_60
  rw [if_neg h11] at hf
  by_cases h13 : a0 = 2
  · rw [if_pos h13] at hf
    refine gr_tsIn 2 60 61 X dX3_dueBehind_1 h13 (by decide) (by decide) (by decide) (by decide) ?_
    refine gr_aload_n X dX3_dueBehind_61 0 rfl rfl ?_
    refine gr_iload_n X dX3_dueBehind_62 2 rfl rfl ?_
    obtain ⟨v14, M15, q16, hf⟩ := gz_bd2e hf
    refine gr_callI (asF := fun ad => [.ref (ad 3), .int a1]) [.int a1] X (c3_dueInPart q16) rfl wm_RX3_48 rfl (X.kd gk_C3).1 ((X.kd gk_C3).2 _ _ _ _) rfl (by decide) (by decide) rfl (Nat.le_of_ble_eq_true rfl) hc dX3_dueBehind_63 ?_
    exact gz_EIu hE hf rfl dX3_dueBehind_66
  rw [if_neg h13] at hf
  by_cases h17 : a0 = 3
  · rw [if_pos h17] at hf
    refine gr_tsIn 3 66 67 X dX3_dueBehind_1 h17 (by decide) (by decide) (by decide) (by decide) ?_
    refine gr_aload_n X dX3_dueBehind_67 0 rfl rfl ?_
    refine gr_iload_n X dX3_dueBehind_68 2 rfl rfl ?_
    obtain ⟨v18, M19, q20, hf⟩ := gz_bd2e hf
    refine gr_callI (asF := fun ad => [.ref (ad 3), .int a1]) [.int a1] X (c3_dueBehindPart q20) rfl wm_RX3_51 rfl (X.kd gk_C3).1 ((X.kd gk_C3).2 _ _ _ _) rfl (by decide) (by decide) rfl (Nat.le_of_ble_eq_true rfl) hc dX3_dueBehind_69 ?_
    exact gz_EIu hE hf rfl dX3_dueBehind_72
  rw [if_neg h17] at hf
  by_cases h21 : a0 = 4
  · rw [if_pos h21] at hf
    refine gr_tsIn 4 72 73 X dX3_dueBehind_1 h21 (by decide) (by decide) (by decide) (by decide) ?_
    refine gr_iload_n X dX3_dueBehind_73 2 rfl rfl ?_
    obtain ⟨v22, M23, q24, hf⟩ := gz_bd2e hf
    refine gr_callSI (asF := fun _ => [.int a1]) [.int a1] X (c3_isModeDigit q24) rfl wm_RX3_45 rfl (by decide) (by decide) rfl (Nat.le_of_ble_eq_true rfl) hc dX3_dueBehind_74 ?_
    refine gr_if_eq 84 X dX3_dueBehind_77 (by decide) (fun h25 => ?_) (fun h25 => ?_)
    · rw [if_pos h25] at hf
      refine gr_iconst (-1) X dX3_dueBehind_84 (by decide) ?_
      exact gz_EIu hE hf rfl dX3_dueBehind_85
    · rw [if_neg h25] at hf
      refine gr_iconst 5 X dX3_dueBehind_80 (by decide) ?_
      refine gr_goto 85 X dX3_dueBehind_81 (by decide) ?_
      exact gz_EIu hE hf rfl dX3_dueBehind_85
  rw [if_neg h21] at hf
  cases hf

def f3_faultOfRules_77 (s0 : Int32) (M0 : gz_M) : Option (Int32 × gz_M) := if s0 = 0 then (some ((-1) - (M0.1 1 1), M0)) else (some (0, M0))
theorem b3_faultOfRules_77 {x : gz_X} {pf : Nat → Bool} {l : Launch} {r : Int32} {M' : gz_M} (X : gz_Ok x cX3_faultOfRules RX3 4 6 gz_cfC pf l) (hc : gx_cells x ≤ (gx_R x).cells ∧ gx_slots x ≤ (gx_R x).slots) (hE : gz_EI x cX3_faultOfRules .int r M') : ∀ (s0 : Int32) (M0 : gz_M), f3_faultOfRules_77 s0 M0 = some (r, M') → gz_At x 77 [(1, .ref (gx_ad x 1))] [.int s0] M0 := by
  intro s0 M0  hf
  rw [f3_faultOfRules_77] at hf
  refine gr_istore_n [(3, .int s0), (1, .ref (gx_ad x 1))] X dX3_faultOfRules_77 rfl rfl (by decide) rfl ?_
  refine gr_iload_n X dX3_faultOfRules_78 0 rfl rfl ?_
  refine gr_if_eq 86 X dX3_faultOfRules_79 (by decide) (fun h1 => ?_) (fun h1 => ?_)
  · rw [if_pos h1] at hf
    refine gr_iconst (-1) X dX3_faultOfRules_86 (by decide) ?_
    refine gr_aload_n X dX3_faultOfRules_87 1 rfl rfl ?_
    refine gf10_1 X wf_RX3_18 dX3_faultOfRules_88 ?_
    refine gr_isub X dX3_faultOfRules_91 ?_
    exact gz_EIu hE hf rfl dX3_faultOfRules_92
  · rw [if_neg h1] at hf
    refine gr_iconst 0 X dX3_faultOfRules_82 (by decide) ?_
    refine gr_goto 92 X dX3_faultOfRules_83 (by decide) ?_
    exact gz_EIu hE hf rfl dX3_faultOfRules_92

def f3_faultOfRules_14 : Nat → Int32 → Int32 → gz_M → Option (Int32 × gz_M)
  | 0, _, _, _ => none
  | n + 1, x2, x3, M0 => if (M0.1 1 1) ≤ x3 then (if (M0.1 1 1) = 0 then (f3_faultOfRules_77 1 M0) else (if x2 = 5 then (f3_faultOfRules_77 1 M0) else (if x2 = 3 then (if (M0.1 3 0) = 0 then (f3_faultOfRules_77 1 M0) else (f3_faultOfRules_77 0 M0)) else (f3_faultOfRules_77 0 M0)))) else (gz_bd2 (f10_get x3 M0) fun v6 M7 => gz_bd2 (f3_dueBehind x2 v6 M7) fun v9 M10 => if v9 = (-1) then (some ((-1) - x3, M10)) else (gz_lt (x3 + 1) fun v13 => f3_faultOfRules_14 n v9 v13 M10))
theorem b3_faultOfRules_14 {x : gz_X} {pf : Nat → Bool} {l : Launch} {r : Int32} {M' : gz_M} (X : gz_Ok x cX3_faultOfRules RX3 4 6 gz_cfC pf l) (hc : gx_cells x ≤ (gx_R x).cells ∧ gx_slots x ≤ (gx_R x).slots) (hE : gz_EI x cX3_faultOfRules .int r M') : ∀ (n : Nat) (x2 : Int32) (x3 : Int32) (M0 : gz_M), f3_faultOfRules_14 n x2 x3 M0 = some (r, M') → gz_At x 14 [(0, .ref (gx_ad x 3)), (1, .ref (gx_ad x 1)), (2, .int x2), (3, .int x3)] [] M0 := by
  intro n
  induction n with
  | zero =>
    intro x2 x3 M0  hf
    rw [f3_faultOfRules_14] at hf
    cases hf
  | succ n ih =>
    intro x2 x3 M0  hf
    rw [f3_faultOfRules_14] at hf
    refine gr_iload_n X dX3_faultOfRules_14 3 rfl rfl ?_
    refine gr_aload_n X dX3_faultOfRules_15 1 rfl rfl ?_
    refine gf10_1 X wf_RX3_18 dX3_faultOfRules_16 ?_
    refine gr_icmp_ge 48 X dX3_faultOfRules_19 (by decide) (fun h1 => ?_) (fun h1 => ?_)
    · rw [if_pos h1] at hf
      refine gr_aload_n X dX3_faultOfRules_48 1 rfl rfl ?_
      refine gf10_1 X wf_RX3_18 dX3_faultOfRules_49 ?_
      refine gr_if_eq 72 X dX3_faultOfRules_52 (by decide) (fun h2 => ?_) (fun h2 => ?_)
      · rw [if_pos h2] at hf
        refine gr_iconst 1 X dX3_faultOfRules_72 (by decide) ?_
        refine gr_goto 77 X dX3_faultOfRules_73 (by decide) ?_
        refine gr_sub (lv' := [(1, .ref (gx_ad x 1))]) [1] rfl ?_
        exact b3_faultOfRules_77 X hc hE _ _ hf
      · rw [if_neg h2] at hf
        refine gr_iload_n X dX3_faultOfRules_55 2 rfl rfl ?_
        refine gr_iconst 5 X dX3_faultOfRules_56 (by decide) ?_
        refine gr_icmp_eq 72 X dX3_faultOfRules_57 (by decide) (fun h3 => ?_) (fun h3 => ?_)
        · rw [if_pos h3] at hf
          refine gr_iconst 1 X dX3_faultOfRules_72 (by decide) ?_
          refine gr_goto 77 X dX3_faultOfRules_73 (by decide) ?_
          refine gr_sub (lv' := [(1, .ref (gx_ad x 1))]) [1] rfl ?_
          exact b3_faultOfRules_77 X hc hE _ _ hf
        · rw [if_neg h3] at hf
          refine gr_iload_n X dX3_faultOfRules_60 2 rfl rfl ?_
          refine gr_iconst 3 X dX3_faultOfRules_61 (by decide) ?_
          refine gr_icmp_ne 76 X dX3_faultOfRules_62 (by decide) (fun h4 => ?_) (fun h4 => ?_)
          · rw [if_pos h4] at hf
            refine gr_aload_n X dX3_faultOfRules_65 0 rfl rfl ?_
            refine gf3_0 X wf_RX3_9 dX3_faultOfRules_66 ?_
            refine gr_if_ne 76 X dX3_faultOfRules_69 (by decide) (fun h5 => ?_) (fun h5 => ?_)
            · rw [if_pos h5] at hf
              refine gr_iconst 1 X dX3_faultOfRules_72 (by decide) ?_
              refine gr_goto 77 X dX3_faultOfRules_73 (by decide) ?_
              refine gr_sub (lv' := [(1, .ref (gx_ad x 1))]) [1] rfl ?_
              exact b3_faultOfRules_77 X hc hE _ _ hf
            · rw [if_neg h5] at hf
              refine gr_iconst 0 X dX3_faultOfRules_76 (by decide) ?_
              refine gr_sub (lv' := [(1, .ref (gx_ad x 1))]) [1] rfl ?_
              exact b3_faultOfRules_77 X hc hE _ _ hf
          · rw [if_neg h4] at hf
            refine gr_iconst 0 X dX3_faultOfRules_76 (by decide) ?_
            refine gr_sub (lv' := [(1, .ref (gx_ad x 1))]) [1] rfl ?_
            exact b3_faultOfRules_77 X hc hE _ _ hf
    · rw [if_neg h1] at hf
      refine gr_aload_n X dX3_faultOfRules_22 0 rfl rfl ?_
      refine gr_iload_n X dX3_faultOfRules_23 2 rfl rfl ?_
      refine gr_aload_n X dX3_faultOfRules_24 1 rfl rfl ?_
      refine gr_iload_n X dX3_faultOfRules_25 3 rfl rfl ?_
      obtain ⟨v6, M7, q8, hf⟩ := gz_bd2e hf
      refine gr_callI (asF := fun ad => [.ref (ad 1), .int x3]) [.int x3] X (c10_get q8) rfl wm_RX3_23 rfl (X.kd gk_C1).1 ((X.kd gk_C1).2 _ _ _ _) rfl (by decide) (by decide) rfl (Nat.le_of_ble_eq_true rfl) hc dX3_faultOfRules_26 ?_
      obtain ⟨v9, M10, q11, hf⟩ := gz_bd2e hf
      refine gr_callI (asF := fun ad => [.ref (ad 3), .int x2, .int v6]) [.int x2, .int v6] X (c3_dueBehind q11) rfl wm_RX3_27 rfl (X.kd gk_C3).1 ((X.kd gk_C3).2 _ _ _ _) rfl (by decide) (by decide) rfl (Nat.le_of_ble_eq_true rfl) hc dX3_faultOfRules_29 ?_
      refine gr_istore_n [(2, .int v9), (0, .ref (gx_ad x 3)), (1, .ref (gx_ad x 1)), (3, .int x3)] X dX3_faultOfRules_32 rfl rfl (by decide) rfl ?_
      refine gr_iload_n X dX3_faultOfRules_33 0 rfl rfl ?_
      refine gr_iconst (-1) X dX3_faultOfRules_34 (by decide) ?_
      refine gr_icmp_ne 42 X dX3_faultOfRules_35 (by decide) (fun h12 => ?_) (fun h12 => ?_)
      · rw [if_pos h12] at hf
        refine gr_iconst (-1) X dX3_faultOfRules_38 (by decide) ?_
        refine gr_iload_n X dX3_faultOfRules_39 3 rfl rfl ?_
        refine gr_isub X dX3_faultOfRules_40 ?_
        exact gz_EIu hE hf rfl dX3_faultOfRules_41
      · rw [if_neg h12] at hf
        obtain ⟨v13, ev13, hf⟩ := gz_lte hf
        refine gr_iinc 1 [(3, .int v13), (2, .int v9), (0, .ref (gx_ad x 3)), (1, .ref (gx_ad x 1))] X dX3_faultOfRules_42 3 rfl (by decide) ev13 (by decide) rfl ?_
        refine gr_goto 14 X dX3_faultOfRules_45 (by decide) ?_
        refine gr_sub (lv' := [(0, .ref (gx_ad x 3)), (1, .ref (gx_ad x 1)), (2, .int v9), (3, .int v13)]) [2, 3, 1, 0] rfl ?_
        exact ih _ _ _ hf

def f3_faultOfRules (M0 : gz_M) : Option (Int32 × gz_M) := gz_lt (gz_w M0 3 0 0) fun M1 => gz_lt (gz_w M1 3 1 0) fun M2 => f3_faultOfRules_14 gz_FU 0 0 M2
set_option maxRecDepth 100000 in
theorem c3_faultOfRules {pf : Nat → Bool} {l : Launch} {r : Int32} {M0 M' : gz_M} (hf : f3_faultOfRules M0 = some (r, M')) : gz_CI l gz_cfC yX3_faultOfRules cX3_faultOfRules 4 6 .int (fun ad => [.ref (ad 3), .ref (ad 1)]) pf M0 r M' := by
  refine gz_ofI (by decide +kernel) (fun _ => Nat.le_of_ble_eq_true rfl) (fun x X hc hE => ?_)
  show gz_At x 0 [(0, .ref (gx_ad x 3)), (1, .ref (gx_ad x 1))] [] M0
  unfold f3_faultOfRules at hf
  refine gr_aload_n X dX3_faultOfRules_0 0 rfl rfl ?_
  refine gr_iconst 0 X dX3_faultOfRules_1 (by decide) ?_
  obtain ⟨M1, eM1, hf⟩ := gz_lte hf
  refine gp3_0 X wf_RX3_9 eM1 dX3_faultOfRules_2 ?_
  refine gr_aload_n X dX3_faultOfRules_5 0 rfl rfl ?_
  refine gr_iconst 0 X dX3_faultOfRules_6 (by decide) ?_
  obtain ⟨M2, eM2, hf⟩ := gz_lte hf
  refine gp3_1 X wf_RX3_15 eM2 dX3_faultOfRules_7 ?_
  refine gr_iconst 0 X dX3_faultOfRules_10 (by decide) ?_
  refine gr_istore_n [(2, .int 0), (0, .ref (gx_ad x 3)), (1, .ref (gx_ad x 1))] X dX3_faultOfRules_11 rfl rfl (by decide) rfl ?_
  refine gr_iconst 0 X dX3_faultOfRules_12 (by decide) ?_
  refine gr_istore_n [(3, .int 0), (2, .int 0), (0, .ref (gx_ad x 3)), (1, .ref (gx_ad x 1))] X dX3_faultOfRules_13 rfl rfl (by decide) rfl ?_
  refine gr_sub (lv' := [(0, .ref (gx_ad x 3)), (1, .ref (gx_ad x 1)), (2, .int 0), (3, .int 0)]) [2, 3, 1, 0] rfl ?_
  exact b3_faultOfRules_14 X hc hE _ _ _ _ hf

def f3_lettersOfMode_7 : Nat → Int32 → Int32 → Int32 → Int32 → gz_M → Option (Int32 × gz_M)
  | 0, _, _, _, _, _ => none
  | n + 1, x1, x2, x3, x4, M0 => if (M0.1 1 1) ≤ x4 then (some (x2, M0)) else (gz_bd2 (f10_get x4 M0) fun v2 M3 => if x4 = 0 then (gz_lt (v2 - 48) fun v6 => gz_lt (x4 + 1) fun v7 => f3_lettersOfMode_7 n x1 x2 v6 v7 M3) else (gz_bd2 (f10_get (x4 - 1) M3) fun v8 M9 => if v8 = 59 then (gz_lt (v2 - 48) fun v12 => gz_lt (x4 + 1) fun v13 => f3_lettersOfMode_7 n x1 x2 v12 v13 M9) else (if x3 = x1 then (gz_bd2 (f3_isLetter v2 M9) fun v15 M16 => if v15 = 0 then (gz_lt (x4 + 1) fun v19 => f3_lettersOfMode_7 n x1 x2 x3 v19 M16) else (gz_lt (x2 + 1) fun v20 => gz_lt (x4 + 1) fun v21 => f3_lettersOfMode_7 n x1 v20 x3 v21 M16)) else (gz_lt (x4 + 1) fun v22 => f3_lettersOfMode_7 n x1 x2 x3 v22 M9))))
theorem b3_lettersOfMode_7 {x : gz_X} {pf : Nat → Bool} {l : Launch} {r : Int32} {M' : gz_M} (X : gz_Ok x cX3_lettersOfMode RX3 6 3 gz_cfC pf l) (hc : gx_cells x ≤ (gx_R x).cells ∧ gx_slots x ≤ (gx_R x).slots) (hE : gz_EI x cX3_lettersOfMode .int r M') : ∀ (n : Nat) (x1 : Int32) (x2 : Int32) (x3 : Int32) (x4 : Int32) (M0 : gz_M), f3_lettersOfMode_7 n x1 x2 x3 x4 M0 = some (r, M') → gz_At x 7 [(0, .ref (gx_ad x 1)), (1, .int x1), (2, .int x2), (3, .int x3), (4, .int x4)] [] M0 := by
  intro n
  induction n with
  | zero =>
    intro x1 x2 x3 x4 M0  hf
    rw [f3_lettersOfMode_7] at hf
    cases hf
  | succ n ih =>
    intro x1 x2 x3 x4 M0  hf
    rw [f3_lettersOfMode_7] at hf
    refine gr_iload X dX3_lettersOfMode_7 4 rfl ?_
    refine gr_aload_n X dX3_lettersOfMode_9 0 rfl rfl ?_
    refine gf10_1 X wf_RX3_18 dX3_lettersOfMode_10 ?_
    refine gr_icmp_ge 73 X dX3_lettersOfMode_13 (by decide) (fun h1 => ?_) (fun h1 => ?_)
    · rw [if_pos h1] at hf
      refine gr_iload_n X dX3_lettersOfMode_73 2 rfl rfl ?_
      exact gz_EIu hE hf rfl dX3_lettersOfMode_74
    · rw [if_neg h1] at hf
      refine gr_aload_n X dX3_lettersOfMode_16 0 rfl rfl ?_
      refine gr_iload X dX3_lettersOfMode_17 4 rfl ?_
      obtain ⟨v2, M3, q4, hf⟩ := gz_bd2e hf
      refine gr_callI (asF := fun ad => [.ref (ad 1), .int x4]) [.int x4] X (c10_get q4) rfl wm_RX3_23 rfl (X.kd gk_C1).1 ((X.kd gk_C1).2 _ _ _ _) rfl (by decide) (by decide) rfl (Nat.le_of_ble_eq_true rfl) hc dX3_lettersOfMode_19 ?_
      refine gr_istore [(5, .int v2), (0, .ref (gx_ad x 1)), (1, .int x1), (2, .int x2), (3, .int x3), (4, .int x4)] X dX3_lettersOfMode_22 rfl (by decide) rfl ?_
      refine gr_iload X dX3_lettersOfMode_24 5 rfl ?_
      refine gr_if_eq 42 X dX3_lettersOfMode_26 (by decide) (fun h5 => ?_) (fun h5 => ?_)
      · rw [if_pos h5] at hf
        refine gr_iload X dX3_lettersOfMode_42 0 rfl ?_
        refine gr_bipush 48 X dX3_lettersOfMode_44 (by decide) ?_
        refine gr_isub X dX3_lettersOfMode_46 ?_
        obtain ⟨v6, ev6, hf⟩ := gz_lte hf
        refine gr_istore_n [(3, .int v6), (5, .int v2), (0, .ref (gx_ad x 1)), (1, .int x1), (2, .int x2), (4, .int x4)] X dX3_lettersOfMode_47 ev6 rfl (by decide) rfl ?_
        refine gr_goto 67 X dX3_lettersOfMode_48 (by decide) ?_
        obtain ⟨v7, ev7, hf⟩ := gz_lte hf
        refine gr_iinc 1 [(4, .int v7), (3, .int v6), (5, .int v2), (0, .ref (gx_ad x 1)), (1, .int x1), (2, .int x2)] X dX3_lettersOfMode_67 5 rfl (by decide) ev7 (by decide) rfl ?_
        refine gr_goto 7 X dX3_lettersOfMode_70 (by decide) ?_
        refine gr_sub (lv' := [(0, .ref (gx_ad x 1)), (1, .int x1), (2, .int x2), (3, .int v6), (4, .int v7)]) [3, 4, 5, 1, 0] rfl ?_
        exact ih _ _ _ _ _ hf
      · rw [if_neg h5] at hf
        refine gr_aload_n X dX3_lettersOfMode_29 1 rfl rfl ?_
        refine gr_iload X dX3_lettersOfMode_30 5 rfl ?_
        refine gr_iconst 1 X dX3_lettersOfMode_32 (by decide) ?_
        refine gr_isub X dX3_lettersOfMode_33 ?_
        obtain ⟨v8, M9, q10, hf⟩ := gz_bd2e hf
        refine gr_callI (asF := fun ad => [.ref (ad 1), .int (x4 - 1)]) [.int (x4 - 1)] X (c10_get q10) rfl wm_RX3_23 rfl (X.kd gk_C1).1 ((X.kd gk_C1).2 _ _ _ _) rfl (by decide) (by decide) rfl (Nat.le_of_ble_eq_true rfl) hc dX3_lettersOfMode_34 ?_
        refine gr_bipush 59 X dX3_lettersOfMode_37 (by decide) ?_
        refine gr_icmp_ne 51 X dX3_lettersOfMode_39 (by decide) (fun h11 => ?_) (fun h11 => ?_)
        · rw [if_pos h11] at hf
          refine gr_iload X dX3_lettersOfMode_42 0 rfl ?_
          refine gr_bipush 48 X dX3_lettersOfMode_44 (by decide) ?_
          refine gr_isub X dX3_lettersOfMode_46 ?_
          obtain ⟨v12, ev12, hf⟩ := gz_lte hf
          refine gr_istore_n [(3, .int v12), (5, .int v2), (0, .ref (gx_ad x 1)), (1, .int x1), (2, .int x2), (4, .int x4)] X dX3_lettersOfMode_47 ev12 rfl (by decide) rfl ?_
          refine gr_goto 67 X dX3_lettersOfMode_48 (by decide) ?_
          obtain ⟨v13, ev13, hf⟩ := gz_lte hf
          refine gr_iinc 1 [(4, .int v13), (3, .int v12), (5, .int v2), (0, .ref (gx_ad x 1)), (1, .int x1), (2, .int x2)] X dX3_lettersOfMode_67 5 rfl (by decide) ev13 (by decide) rfl ?_
          refine gr_goto 7 X dX3_lettersOfMode_70 (by decide) ?_
          refine gr_sub (lv' := [(0, .ref (gx_ad x 1)), (1, .int x1), (2, .int x2), (3, .int v12), (4, .int v13)]) [3, 4, 5, 1, 0] rfl ?_
          exact ih _ _ _ _ _ hf
        · rw [if_neg h11] at hf
          refine gr_iload_n X dX3_lettersOfMode_51 4 rfl rfl ?_
          refine gr_iload_n X dX3_lettersOfMode_52 2 rfl rfl ?_
          refine gr_icmp_ne 67 X dX3_lettersOfMode_53 (by decide) (fun h14 => ?_) (fun h14 => ?_)
          · rw [if_pos h14] at hf
            refine gr_iload X dX3_lettersOfMode_56 0 rfl ?_
            obtain ⟨v15, M16, q17, hf⟩ := gz_bd2e hf
            refine gr_callSI (asF := fun _ => [.int v2]) [.int v2] X (c3_isLetter q17) rfl wm_RX3_58 rfl (by decide) (by decide) rfl (Nat.le_of_ble_eq_true rfl) hc dX3_lettersOfMode_58 ?_
            refine gr_if_eq 67 X dX3_lettersOfMode_61 (by decide) (fun h18 => ?_) (fun h18 => ?_)
            · rw [if_pos h18] at hf
              obtain ⟨v19, ev19, hf⟩ := gz_lte hf
              refine gr_iinc 1 [(4, .int v19), (5, .int v2), (0, .ref (gx_ad x 1)), (1, .int x1), (2, .int x2), (3, .int x3)] X dX3_lettersOfMode_67 5 rfl (by decide) ev19 (by decide) rfl ?_
              refine gr_goto 7 X dX3_lettersOfMode_70 (by decide) ?_
              refine gr_sub (lv' := [(0, .ref (gx_ad x 1)), (1, .int x1), (2, .int x2), (3, .int x3), (4, .int v19)]) [2, 3, 4, 5, 0] rfl ?_
              exact ih _ _ _ _ _ hf
            · rw [if_neg h18] at hf
              obtain ⟨v20, ev20, hf⟩ := gz_lte hf
              refine gr_iinc 1 [(2, .int v20), (5, .int v2), (0, .ref (gx_ad x 1)), (1, .int x1), (3, .int x3), (4, .int x4)] X dX3_lettersOfMode_64 3 rfl (by decide) ev20 (by decide) rfl ?_
              obtain ⟨v21, ev21, hf⟩ := gz_lte hf
              refine gr_iinc 1 [(4, .int v21), (2, .int v20), (5, .int v2), (0, .ref (gx_ad x 1)), (1, .int x1), (3, .int x3)] X dX3_lettersOfMode_67 5 rfl (by decide) ev21 (by decide) rfl ?_
              refine gr_goto 7 X dX3_lettersOfMode_70 (by decide) ?_
              refine gr_sub (lv' := [(0, .ref (gx_ad x 1)), (1, .int x1), (2, .int v20), (3, .int x3), (4, .int v21)]) [3, 4, 1, 5, 0] rfl ?_
              exact ih _ _ _ _ _ hf
          · rw [if_neg h14] at hf
            obtain ⟨v22, ev22, hf⟩ := gz_lte hf
            refine gr_iinc 1 [(4, .int v22), (5, .int v2), (0, .ref (gx_ad x 1)), (1, .int x1), (2, .int x2), (3, .int x3)] X dX3_lettersOfMode_67 5 rfl (by decide) ev22 (by decide) rfl ?_
            refine gr_goto 7 X dX3_lettersOfMode_70 (by decide) ?_
            refine gr_sub (lv' := [(0, .ref (gx_ad x 1)), (1, .int x1), (2, .int x2), (3, .int x3), (4, .int v22)]) [2, 3, 4, 5, 0] rfl ?_
            exact ih _ _ _ _ _ hf

def f3_lettersOfMode (a1 : Int32) (M0 : gz_M) : Option (Int32 × gz_M) := f3_lettersOfMode_7 gz_FU a1 0 (-1) 0 M0
set_option maxRecDepth 100000 in
theorem c3_lettersOfMode {pf : Nat → Bool} {l : Launch} {r : Int32} {M0 M' : gz_M} {a1 : Int32} (hf : f3_lettersOfMode a1 M0 = some (r, M')) : gz_CI l gz_cfC yX3_lettersOfMode cX3_lettersOfMode 6 3 .int (fun ad => [.ref (ad 1), .int a1]) pf M0 r M' := by
  refine gz_ofI (by decide +kernel) (fun _ => Nat.le_of_ble_eq_true rfl) (fun x X hc hE => ?_)
  show gz_At x 0 [(0, .ref (gx_ad x 1)), (1, .int a1)] [] M0
  unfold f3_lettersOfMode at hf
  refine gr_iconst 0 X dX3_lettersOfMode_0 (by decide) ?_
  refine gr_istore_n [(2, .int 0), (0, .ref (gx_ad x 1)), (1, .int a1)] X dX3_lettersOfMode_1 rfl rfl (by decide) rfl ?_
  refine gr_iconst (-1) X dX3_lettersOfMode_2 (by decide) ?_
  refine gr_istore_n [(3, .int (-1)), (2, .int 0), (0, .ref (gx_ad x 1)), (1, .int a1)] X dX3_lettersOfMode_3 rfl rfl (by decide) rfl ?_
  refine gr_iconst 0 X dX3_lettersOfMode_4 (by decide) ?_
  refine gr_istore [(4, .int 0), (3, .int (-1)), (2, .int 0), (0, .ref (gx_ad x 1)), (1, .int a1)] X dX3_lettersOfMode_5 rfl (by decide) rfl ?_
  refine gr_sub (lv' := [(0, .ref (gx_ad x 1)), (1, .int a1), (2, .int 0), (3, .int (-1)), (4, .int 0)]) [3, 4, 2, 1, 0] rfl ?_
  exact b3_lettersOfMode_7 X hc hE _ _ _ _ _ _ hf

def f3_faultOfLetters_2 : Nat → Int32 → gz_M → Option (Int32 × gz_M)
  | 0, _, _ => none
  | n + 1, x2, M0 => if 4 ≤ x2 then (some (0, M0)) else (gz_bd2 (f3_lettersOfMode x2 M0) fun v2 M3 => if v2 ≤ 10 then (gz_lt (x2 + 1) fun v6 => f3_faultOfLetters_2 n v6 M3) else (some ((-100) - x2, M3)))
theorem b3_faultOfLetters_2 {x : gz_X} {pf : Nat → Bool} {l : Launch} {r : Int32} {M' : gz_M} (X : gz_Ok x cX3_faultOfLetters RX3 3 4 gz_cfC pf l) (hc : gx_cells x ≤ (gx_R x).cells ∧ gx_slots x ≤ (gx_R x).slots) (hE : gz_EI x cX3_faultOfLetters .int r M') : ∀ (n : Nat) (x2 : Int32) (M0 : gz_M), f3_faultOfLetters_2 n x2 M0 = some (r, M') → gz_At x 2 [(1, .ref (gx_ad x 1)), (2, .int x2)] [] M0 := by
  intro n
  induction n with
  | zero =>
    intro x2 M0  hf
    rw [f3_faultOfLetters_2] at hf
    cases hf
  | succ n ih =>
    intro x2 M0  hf
    rw [f3_faultOfLetters_2] at hf
    refine gr_iload_n X dX3_faultOfLetters_2 1 rfl rfl ?_
    refine gr_iconst 4 X dX3_faultOfLetters_3 (by decide) ?_
    refine gr_icmp_ge 28 X dX3_faultOfLetters_4 (by decide) (fun h1 => ?_) (fun h1 => ?_)
    · rw [if_pos h1] at hf
      refine gr_iconst 0 X dX3_faultOfLetters_28 (by decide) ?_
      exact gz_EIu hE hf rfl dX3_faultOfLetters_29
    · rw [if_neg h1] at hf
      refine gr_aload_n X dX3_faultOfLetters_7 0 rfl rfl ?_
      refine gr_iload_n X dX3_faultOfLetters_8 1 rfl rfl ?_
      obtain ⟨v2, M3, q4, hf⟩ := gz_bd2e hf
      refine gr_callSI (asF := fun ad => [.ref (ad 1), .int x2]) [.ref (gx_ad x 1), .int x2] X (c3_lettersOfMode q4) rfl wm_RX3_31 rfl (by decide) (by decide) rfl (Nat.le_of_ble_eq_true rfl) hc dX3_faultOfLetters_9 ?_
      refine gr_bipush 10 X dX3_faultOfLetters_12 (by decide) ?_
      refine gr_icmp_le 22 X dX3_faultOfLetters_14 (by decide) (fun h5 => ?_) (fun h5 => ?_)
      · rw [if_pos h5] at hf
        obtain ⟨v6, ev6, hf⟩ := gz_lte hf
        refine gr_iinc 1 [(2, .int v6), (1, .ref (gx_ad x 1))] X dX3_faultOfLetters_22 1 rfl (by decide) ev6 (by decide) rfl ?_
        refine gr_goto 2 X dX3_faultOfLetters_25 (by decide) ?_
        refine gr_sub (lv' := [(1, .ref (gx_ad x 1)), (2, .int v6)]) [1, 0] rfl ?_
        exact ih _ _ hf
      · rw [if_neg h5] at hf
        refine gr_bipush (-100) X dX3_faultOfLetters_17 (by decide) ?_
        refine gr_iload_n X dX3_faultOfLetters_19 1 rfl rfl ?_
        refine gr_isub X dX3_faultOfLetters_20 ?_
        exact gz_EIu hE hf rfl dX3_faultOfLetters_21

def f3_faultOfLetters (M0 : gz_M) : Option (Int32 × gz_M) := f3_faultOfLetters_2 gz_FU 0 M0
set_option maxRecDepth 100000 in
theorem c3_faultOfLetters {pf : Nat → Bool} {l : Launch} {r : Int32} {M0 M' : gz_M} (hf : f3_faultOfLetters M0 = some (r, M')) : gz_CI l gz_cfC yX3_faultOfLetters cX3_faultOfLetters 3 4 .int (fun ad => [.ref (ad 3), .ref (ad 1)]) pf M0 r M' := by
  refine gz_ofI (by decide +kernel) (fun _ => Nat.le_of_ble_eq_true rfl) (fun x X hc hE => ?_)
  show gz_At x 0 [(0, .ref (gx_ad x 3)), (1, .ref (gx_ad x 1))] [] M0
  unfold f3_faultOfLetters at hf
  refine gr_iconst 0 X dX3_faultOfLetters_0 (by decide) ?_
  refine gr_istore_n [(2, .int 0), (0, .ref (gx_ad x 3)), (1, .ref (gx_ad x 1))] X dX3_faultOfLetters_1 rfl rfl (by decide) rfl ?_
  refine gr_sub (lv' := [(1, .ref (gx_ad x 1)), (2, .int 0)]) [2, 0] rfl ?_
  exact b3_faultOfLetters_2 X hc hE _ _ _ hf

def f3_faultOfLine_2 : Nat → Int32 → gz_M → Option (Int32 × gz_M)
  | 0, _, _ => none
  | n + 1, x2, M0 => if (M0.1 1 1) ≤ x2 then (some (0, M0)) else (if 24 ≤ x2 then (some ((-1) - x2, M0)) else (gz_bd2 (f10_get x2 M0) fun v3 M4 => gz_bd2 (f3_isSign v3 M4) fun v6 M7 => if v6 = 0 then (some ((-1) - x2, M7)) else (gz_lt (x2 + 1) fun v10 => f3_faultOfLine_2 n v10 M7)))
theorem b3_faultOfLine_2 {x : gz_X} {pf : Nat → Bool} {l : Launch} {r : Int32} {M' : gz_M} (X : gz_Ok x cX3_faultOfLine RX3 3 2 gz_cfC pf l) (hc : gx_cells x ≤ (gx_R x).cells ∧ gx_slots x ≤ (gx_R x).slots) (hE : gz_EI x cX3_faultOfLine .int r M') : ∀ (n : Nat) (x2 : Int32) (M0 : gz_M), f3_faultOfLine_2 n x2 M0 = some (r, M') → gz_At x 2 [(1, .ref (gx_ad x 1)), (2, .int x2)] [] M0 := by
  intro n
  induction n with
  | zero =>
    intro x2 M0  hf
    rw [f3_faultOfLine_2] at hf
    cases hf
  | succ n ih =>
    intro x2 M0  hf
    rw [f3_faultOfLine_2] at hf
    refine gr_iload_n X dX3_faultOfLine_2 1 rfl rfl ?_
    refine gr_aload_n X dX3_faultOfLine_3 0 rfl rfl ?_
    refine gf10_1 X wf_RX3_18 dX3_faultOfLine_4 ?_
    refine gr_icmp_ge 37 X dX3_faultOfLine_7 (by decide) (fun h1 => ?_) (fun h1 => ?_)
    · rw [if_pos h1] at hf
      refine gr_iconst 0 X dX3_faultOfLine_37 (by decide) ?_
      exact gz_EIu hE hf rfl dX3_faultOfLine_38
    · rw [if_neg h1] at hf
      refine gr_iload_n X dX3_faultOfLine_10 1 rfl rfl ?_
      refine gr_bipush 24 X dX3_faultOfLine_11 (by decide) ?_
      refine gr_icmp_ge 27 X dX3_faultOfLine_13 (by decide) (fun h2 => ?_) (fun h2 => ?_)
      · rw [if_pos h2] at hf
        refine gr_iconst (-1) X dX3_faultOfLine_27 (by decide) ?_
        refine gr_iload_n X dX3_faultOfLine_28 1 rfl rfl ?_
        refine gr_isub X dX3_faultOfLine_29 ?_
        exact gz_EIu hE hf rfl dX3_faultOfLine_30
      · rw [if_neg h2] at hf
        refine gr_aload_n X dX3_faultOfLine_16 0 rfl rfl ?_
        refine gr_iload_n X dX3_faultOfLine_17 1 rfl rfl ?_
        obtain ⟨v3, M4, q5, hf⟩ := gz_bd2e hf
        refine gr_callI (asF := fun ad => [.ref (ad 1), .int x2]) [.int x2] X (c10_get q5) rfl wm_RX3_23 rfl (X.kd gk_C1).1 ((X.kd gk_C1).2 _ _ _ _) rfl (by decide) (by decide) rfl (Nat.le_of_ble_eq_true rfl) hc dX3_faultOfLine_18 ?_
        obtain ⟨v6, M7, q8, hf⟩ := gz_bd2e hf
        refine gr_callSI (asF := fun _ => [.int v3]) [.int v3] X (c3_isSign q8) rfl wm_RX3_35 rfl (by decide) (by decide) rfl (Nat.le_of_ble_eq_true rfl) hc dX3_faultOfLine_21 ?_
        refine gr_if_ne 31 X dX3_faultOfLine_24 (by decide) (fun h9 => ?_) (fun h9 => ?_)
        · rw [if_pos h9] at hf
          refine gr_iconst (-1) X dX3_faultOfLine_27 (by decide) ?_
          refine gr_iload_n X dX3_faultOfLine_28 1 rfl rfl ?_
          refine gr_isub X dX3_faultOfLine_29 ?_
          exact gz_EIu hE hf rfl dX3_faultOfLine_30
        · rw [if_neg h9] at hf
          obtain ⟨v10, ev10, hf⟩ := gz_lte hf
          refine gr_iinc 1 [(2, .int v10), (1, .ref (gx_ad x 1))] X dX3_faultOfLine_31 1 rfl (by decide) ev10 (by decide) rfl ?_
          refine gr_goto 2 X dX3_faultOfLine_34 (by decide) ?_
          refine gr_sub (lv' := [(1, .ref (gx_ad x 1)), (2, .int v10)]) [1, 0] rfl ?_
          exact ih _ _ hf

def f3_faultOfLine (M0 : gz_M) : Option (Int32 × gz_M) := f3_faultOfLine_2 gz_FU 0 M0
set_option maxRecDepth 100000 in
theorem c3_faultOfLine {pf : Nat → Bool} {l : Launch} {r : Int32} {M0 M' : gz_M} (hf : f3_faultOfLine M0 = some (r, M')) : gz_CI l gz_cfC yX3_faultOfLine cX3_faultOfLine 3 2 .int (fun ad => [.ref (ad 3), .ref (ad 1)]) pf M0 r M' := by
  refine gz_ofI (by decide +kernel) (fun _ => Nat.le_of_ble_eq_true rfl) (fun x X hc hE => ?_)
  show gz_At x 0 [(0, .ref (gx_ad x 3)), (1, .ref (gx_ad x 1))] [] M0
  unfold f3_faultOfLine at hf
  refine gr_iconst 0 X dX3_faultOfLine_0 (by decide) ?_
  refine gr_istore_n [(2, .int 0), (0, .ref (gx_ad x 3)), (1, .ref (gx_ad x 1))] X dX3_faultOfLine_1 rfl rfl (by decide) rfl ?_
  refine gr_sub (lv' := [(1, .ref (gx_ad x 1)), (2, .int 0)]) [2, 0] rfl ?_
  exact b3_faultOfLine_2 X hc hE _ _ _ hf

def f3_isDigit (a0 : Int32) (M0 : gz_M) : Option (Int32 × gz_M) := if a0 < 48 then (some (0, M0)) else (if 57 < a0 then (some (0, M0)) else (some (1, M0)))
set_option maxRecDepth 100000 in
theorem c3_isDigit {pf : Nat → Bool} {l : Launch} {r : Int32} {M0 M' : gz_M} {a0 : Int32} (hf : f3_isDigit a0 M0 = some (r, M')) : gz_CI l gz_cfC yX3_isDigit cX3_isDigit 1 1 .boolean (fun _ => [.int a0]) pf M0 r M' := by
  refine gz_ofI (by decide +kernel) (fun _ => Nat.le_of_ble_eq_true rfl) (fun x X hc hE => ?_)
  show gz_At x 0 [(0, .int a0)] [] M0
  unfold f3_isDigit at hf
  refine gr_iload_n X dX3_isDigit_0 0 rfl rfl ?_
  refine gr_bipush 48 X dX3_isDigit_1 (by decide) ?_
  refine gr_icmp_lt 16 X dX3_isDigit_3 (by decide) (fun h1 => ?_) (fun h1 => ?_)
  · rw [if_pos h1] at hf
    refine gr_iconst 0 X dX3_isDigit_16 (by decide) ?_
    exact gz_EIu hE hf rfl dX3_isDigit_17
  · rw [if_neg h1] at hf
    refine gr_iload_n X dX3_isDigit_6 0 rfl rfl ?_
    refine gr_bipush 57 X dX3_isDigit_7 (by decide) ?_
    refine gr_icmp_gt 16 X dX3_isDigit_9 (by decide) (fun h2 => ?_) (fun h2 => ?_)
    · rw [if_pos h2] at hf
      refine gr_iconst 0 X dX3_isDigit_16 (by decide) ?_
      exact gz_EIu hE hf rfl dX3_isDigit_17
    · rw [if_neg h2] at hf
      refine gr_iconst 1 X dX3_isDigit_12 (by decide) ?_
      refine gr_goto 17 X dX3_isDigit_13 (by decide) ?_
      exact gz_EIu hE hf rfl dX3_isDigit_17

def f3_kindOfChange (a0 : Int32) (M0 : gz_M) : Option (Int32 × gz_M) := if a0 = 114 then (some (0, M0)) else (if a0 = 105 then (some (1, M0)) else (if a0 = 100 then (some (2, M0)) else (some ((-1), M0))))
set_option maxRecDepth 100000 in
theorem c3_kindOfChange {pf : Nat → Bool} {l : Launch} {r : Int32} {M0 M' : gz_M} {a0 : Int32} (hf : f3_kindOfChange a0 M0 = some (r, M')) : gz_CI l gz_cfC yX3_kindOfChange cX3_kindOfChange 1 1 .int (fun _ => [.int a0]) pf M0 r M' := by
  refine gz_ofI (by decide +kernel) (fun _ => Nat.le_of_ble_eq_true rfl) (fun x X hc hE => ?_)
  show gz_At x 0 [(0, .int a0)] [] M0
  unfold f3_kindOfChange at hf
  refine gr_iload_n X dX3_kindOfChange_0 0 rfl rfl ?_
  refine gr_bipush 114 X dX3_kindOfChange_1 (by decide) ?_
  refine gr_icmp_ne 8 X dX3_kindOfChange_3 (by decide) (fun h1 => ?_) (fun h1 => ?_)
  · rw [if_pos h1] at hf
    refine gr_iconst 0 X dX3_kindOfChange_6 (by decide) ?_
    exact gz_EIu hE hf rfl dX3_kindOfChange_7
  · rw [if_neg h1] at hf
    refine gr_iload_n X dX3_kindOfChange_8 0 rfl rfl ?_
    refine gr_bipush 105 X dX3_kindOfChange_9 (by decide) ?_
    refine gr_icmp_ne 16 X dX3_kindOfChange_11 (by decide) (fun h2 => ?_) (fun h2 => ?_)
    · rw [if_pos h2] at hf
      refine gr_iconst 1 X dX3_kindOfChange_14 (by decide) ?_
      exact gz_EIu hE hf rfl dX3_kindOfChange_15
    · rw [if_neg h2] at hf
      refine gr_iload_n X dX3_kindOfChange_16 0 rfl rfl ?_
      refine gr_bipush 100 X dX3_kindOfChange_17 (by decide) ?_
      refine gr_icmp_ne 26 X dX3_kindOfChange_19 (by decide) (fun h3 => ?_) (fun h3 => ?_)
      · rw [if_pos h3] at hf
        refine gr_iconst 2 X dX3_kindOfChange_22 (by decide) ?_
        refine gr_goto 27 X dX3_kindOfChange_23 (by decide) ?_
        exact gz_EIu hE hf rfl dX3_kindOfChange_27
      · rw [if_neg h3] at hf
        refine gr_iconst (-1) X dX3_kindOfChange_26 (by decide) ?_
        exact gz_EIu hE hf rfl dX3_kindOfChange_27

def f3_faultOfDay_101 (c7 : Int32 → Int32 → Int32 → gz_M → Option (Int32 × gz_M)) (x2 : Int32) (x3 : Int32) (x4 : Int32) (s0 : Int32) (M0 : gz_M) : Option (Int32 × gz_M) := if s0 = 0 then (gz_lt (x3 + 1) fun v2 => gz_lt (x4 + 1) fun v3 => c7 x2 v2 v3 M0) else (gz_lt (x4 + 1) fun v4 => c7 x2 0 v4 M0)
theorem b3_faultOfDay_101 {x : gz_X} {pf : Nat → Bool} {l : Launch} {r : Int32} {M' : gz_M} (X : gz_Ok x cX3_faultOfDay RX3 8 2 gz_cfC pf l) (hc : gx_cells x ≤ (gx_R x).cells ∧ gx_slots x ≤ (gx_R x).slots) (hE : gz_EI x cX3_faultOfDay .int r M') {c7 : Int32 → Int32 → Int32 → gz_M → Option (Int32 × gz_M)} (hc7 : ∀ (x2 : Int32) (x3 : Int32) (x4 : Int32) (M0 : gz_M), c7 x2 x3 x4 M0 = some (r, M') → gz_At x 7 [(1, .ref (gx_ad x 1)), (2, .int x2), (3, .int x3), (4, .int x4)] [] M0) : ∀ (x2 : Int32) (x3 : Int32) (x4 : Int32) (s0 : Int32) (M0 : gz_M), f3_faultOfDay_101 c7 x2 x3 x4 s0 M0 = some (r, M') → gz_At x 101 [(1, .ref (gx_ad x 1)), (2, .int x2), (3, .int x3), (4, .int x4)] [.int s0] M0 := by
  intro x2 x3 x4 s0 M0  hf
  rw [f3_faultOfDay_101] at hf
  refine gr_istore [(7, .int s0), (1, .ref (gx_ad x 1)), (2, .int x2), (3, .int x3), (4, .int x4)] X dX3_faultOfDay_101 rfl (by decide) rfl ?_
  refine gr_iload X dX3_faultOfDay_103 0 rfl ?_
  refine gr_if_eq 112 X dX3_faultOfDay_105 (by decide) (fun h1 => ?_) (fun h1 => ?_)
  · rw [if_pos h1] at hf
    refine gr_iload_n X dX3_faultOfDay_112 3 rfl rfl ?_
    refine gr_iconst 1 X dX3_faultOfDay_113 (by decide) ?_
    refine gr_iadd X dX3_faultOfDay_114 ?_
    obtain ⟨v2, ev2, hf⟩ := gz_lte hf
    refine gr_istore_n [(3, .int v2), (7, .int s0), (1, .ref (gx_ad x 1)), (2, .int x2), (4, .int x4)] X dX3_faultOfDay_115 ev2 rfl (by decide) rfl ?_
    obtain ⟨v3, ev3, hf⟩ := gz_lte hf
    refine gr_iinc 1 [(4, .int v3), (3, .int v2), (7, .int s0), (1, .ref (gx_ad x 1)), (2, .int x2)] X dX3_faultOfDay_116 4 rfl (by decide) ev3 (by decide) rfl ?_
    refine gr_goto 7 X dX3_faultOfDay_119 (by decide) ?_
    refine gr_sub (lv' := [(1, .ref (gx_ad x 1)), (2, .int x2), (3, .int v2), (4, .int v3)]) [3, 4, 1, 0] rfl ?_
    exact hc7 _ _ _ _ hf
  · rw [if_neg h1] at hf
    refine gr_iconst 0 X dX3_faultOfDay_108 (by decide) ?_
    refine gr_goto 115 X dX3_faultOfDay_109 (by decide) ?_
    refine gr_istore_n [(3, .int 0), (7, .int s0), (1, .ref (gx_ad x 1)), (2, .int x2), (4, .int x4)] X dX3_faultOfDay_115 rfl rfl (by decide) rfl ?_
    obtain ⟨v4, ev4, hf⟩ := gz_lte hf
    refine gr_iinc 1 [(4, .int v4), (3, .int 0), (7, .int s0), (1, .ref (gx_ad x 1)), (2, .int x2)] X dX3_faultOfDay_116 4 rfl (by decide) ev4 (by decide) rfl ?_
    refine gr_goto 7 X dX3_faultOfDay_119 (by decide) ?_
    refine gr_sub (lv' := [(1, .ref (gx_ad x 1)), (2, .int x2), (3, .int 0), (4, .int v4)]) [3, 4, 1, 0] rfl ?_
    exact hc7 _ _ _ _ hf

def f3_faultOfDay_69 (c7 : Int32 → Int32 → Int32 → gz_M → Option (Int32 × gz_M)) (x2 : Int32) (x3 : Int32) (x4 : Int32) (s0 : Int32) (M0 : gz_M) : Option (Int32 × gz_M) := if s0 = 0 then (some ((-1) - x4, M0)) else (if x3 = 3 then (f3_faultOfDay_101 c7 x2 x3 x4 1 M0) else (if x3 = 2 then (if x2 = 2 then (f3_faultOfDay_101 c7 x2 x3 x4 1 M0) else (f3_faultOfDay_101 c7 x2 x3 x4 0 M0)) else (f3_faultOfDay_101 c7 x2 x3 x4 0 M0)))
theorem b3_faultOfDay_69 {x : gz_X} {pf : Nat → Bool} {l : Launch} {r : Int32} {M' : gz_M} (X : gz_Ok x cX3_faultOfDay RX3 8 2 gz_cfC pf l) (hc : gx_cells x ≤ (gx_R x).cells ∧ gx_slots x ≤ (gx_R x).slots) (hE : gz_EI x cX3_faultOfDay .int r M') {c7 : Int32 → Int32 → Int32 → gz_M → Option (Int32 × gz_M)} (hc7 : ∀ (x2 : Int32) (x3 : Int32) (x4 : Int32) (M0 : gz_M), c7 x2 x3 x4 M0 = some (r, M') → gz_At x 7 [(1, .ref (gx_ad x 1)), (2, .int x2), (3, .int x3), (4, .int x4)] [] M0) : ∀ (x2 : Int32) (x3 : Int32) (x4 : Int32) (s0 : Int32) (M0 : gz_M), f3_faultOfDay_69 c7 x2 x3 x4 s0 M0 = some (r, M') → gz_At x 69 [(1, .ref (gx_ad x 1)), (2, .int x2), (3, .int x3), (4, .int x4)] [.int s0] M0 := by
  intro x2 x3 x4 s0 M0  hf
  rw [f3_faultOfDay_69] at hf
  refine gr_istore [(6, .int s0), (1, .ref (gx_ad x 1)), (2, .int x2), (3, .int x3), (4, .int x4)] X dX3_faultOfDay_69 rfl (by decide) rfl ?_
  refine gr_iload X dX3_faultOfDay_71 0 rfl ?_
  refine gr_if_ne 81 X dX3_faultOfDay_73 (by decide) (fun h1 => ?_) (fun h1 => ?_)
  · rw [if_pos h1] at hf
    refine gr_iconst (-1) X dX3_faultOfDay_76 (by decide) ?_
    refine gr_iload X dX3_faultOfDay_77 4 rfl ?_
    refine gr_isub X dX3_faultOfDay_79 ?_
    exact gz_EIu hE hf rfl dX3_faultOfDay_80
  · rw [if_neg h1] at hf
    refine gr_iload_n X dX3_faultOfDay_81 3 rfl rfl ?_
    refine gr_iconst 3 X dX3_faultOfDay_82 (by decide) ?_
    refine gr_icmp_eq 96 X dX3_faultOfDay_83 (by decide) (fun h2 => ?_) (fun h2 => ?_)
    · rw [if_pos h2] at hf
      refine gr_iconst 1 X dX3_faultOfDay_96 (by decide) ?_
      refine gr_goto 101 X dX3_faultOfDay_97 (by decide) ?_
      refine gr_sub (lv' := [(1, .ref (gx_ad x 1)), (2, .int x2), (3, .int x3), (4, .int x4)]) [1, 2, 3, 4] rfl ?_
      exact b3_faultOfDay_101 X hc hE hc7 _ _ _ _ _ hf
    · rw [if_neg h2] at hf
      refine gr_iload_n X dX3_faultOfDay_86 3 rfl rfl ?_
      refine gr_iconst 2 X dX3_faultOfDay_87 (by decide) ?_
      refine gr_icmp_ne 100 X dX3_faultOfDay_88 (by decide) (fun h3 => ?_) (fun h3 => ?_)
      · rw [if_pos h3] at hf
        refine gr_iload_n X dX3_faultOfDay_91 2 rfl rfl ?_
        refine gr_iconst 2 X dX3_faultOfDay_92 (by decide) ?_
        refine gr_icmp_ne 100 X dX3_faultOfDay_93 (by decide) (fun h4 => ?_) (fun h4 => ?_)
        · rw [if_pos h4] at hf
          refine gr_iconst 1 X dX3_faultOfDay_96 (by decide) ?_
          refine gr_goto 101 X dX3_faultOfDay_97 (by decide) ?_
          refine gr_sub (lv' := [(1, .ref (gx_ad x 1)), (2, .int x2), (3, .int x3), (4, .int x4)]) [1, 2, 3, 4] rfl ?_
          exact b3_faultOfDay_101 X hc hE hc7 _ _ _ _ _ hf
        · rw [if_neg h4] at hf
          refine gr_iconst 0 X dX3_faultOfDay_100 (by decide) ?_
          refine gr_sub (lv' := [(1, .ref (gx_ad x 1)), (2, .int x2), (3, .int x3), (4, .int x4)]) [1, 2, 3, 4] rfl ?_
          exact b3_faultOfDay_101 X hc hE hc7 _ _ _ _ _ hf
      · rw [if_neg h3] at hf
        refine gr_iconst 0 X dX3_faultOfDay_100 (by decide) ?_
        refine gr_sub (lv' := [(1, .ref (gx_ad x 1)), (2, .int x2), (3, .int x3), (4, .int x4)]) [1, 2, 3, 4] rfl ?_
        exact b3_faultOfDay_101 X hc hE hc7 _ _ _ _ _ hf

def f3_faultOfDay_34 (c7 : Int32 → Int32 → Int32 → gz_M → Option (Int32 × gz_M)) (x2 : Int32) (x3 : Int32) (x4 : Int32) (x5 : Int32) (M0 : gz_M) : Option (Int32 × gz_M) := if x3 = 0 then (if x2 = (-1) then (f3_faultOfDay_69 c7 x2 x3 x4 0 M0) else (f3_faultOfDay_69 c7 x2 x3 x4 1 M0)) else (if 3 ≤ x3 then (gz_bd2 (f3_isSign x5 M0) fun v4 M5 => f3_faultOfDay_69 c7 x2 x3 x4 v4 M5) else (gz_bd2 (f3_isDigit x5 M0) fun v7 M8 => f3_faultOfDay_69 c7 x2 x3 x4 v7 M8))
theorem b3_faultOfDay_34 {x : gz_X} {pf : Nat → Bool} {l : Launch} {r : Int32} {M' : gz_M} (X : gz_Ok x cX3_faultOfDay RX3 8 2 gz_cfC pf l) (hc : gx_cells x ≤ (gx_R x).cells ∧ gx_slots x ≤ (gx_R x).slots) (hE : gz_EI x cX3_faultOfDay .int r M') {c7 : Int32 → Int32 → Int32 → gz_M → Option (Int32 × gz_M)} (hc7 : ∀ (x2 : Int32) (x3 : Int32) (x4 : Int32) (M0 : gz_M), c7 x2 x3 x4 M0 = some (r, M') → gz_At x 7 [(1, .ref (gx_ad x 1)), (2, .int x2), (3, .int x3), (4, .int x4)] [] M0) : ∀ (x2 : Int32) (x3 : Int32) (x4 : Int32) (x5 : Int32) (M0 : gz_M), f3_faultOfDay_34 c7 x2 x3 x4 x5 M0 = some (r, M') → gz_At x 34 [(1, .ref (gx_ad x 1)), (2, .int x2), (3, .int x3), (4, .int x4), (5, .int x5)] [] M0 := by
  intro x2 x3 x4 x5 M0  hf
  rw [f3_faultOfDay_34] at hf
  refine gr_iload_n X dX3_faultOfDay_34 2 rfl rfl ?_
  refine gr_if_ne 51 X dX3_faultOfDay_35 (by decide) (fun h1 => ?_) (fun h1 => ?_)
  · rw [if_pos h1] at hf
    refine gr_iload_n X dX3_faultOfDay_38 1 rfl rfl ?_
    refine gr_iconst (-1) X dX3_faultOfDay_39 (by decide) ?_
    refine gr_icmp_eq 47 X dX3_faultOfDay_40 (by decide) (fun h2 => ?_) (fun h2 => ?_)
    · rw [if_pos h2] at hf
      refine gr_iconst 0 X dX3_faultOfDay_47 (by decide) ?_
      refine gr_goto 69 X dX3_faultOfDay_48 (by decide) ?_
      refine gr_sub (lv' := [(1, .ref (gx_ad x 1)), (2, .int x2), (3, .int x3), (4, .int x4)]) [0, 1, 2, 3] rfl ?_
      exact b3_faultOfDay_69 X hc hE hc7 _ _ _ _ _ hf
    · rw [if_neg h2] at hf
      refine gr_iconst 1 X dX3_faultOfDay_43 (by decide) ?_
      refine gr_goto 69 X dX3_faultOfDay_44 (by decide) ?_
      refine gr_sub (lv' := [(1, .ref (gx_ad x 1)), (2, .int x2), (3, .int x3), (4, .int x4)]) [0, 1, 2, 3] rfl ?_
      exact b3_faultOfDay_69 X hc hE hc7 _ _ _ _ _ hf
  · rw [if_neg h1] at hf
    refine gr_iload_n X dX3_faultOfDay_51 2 rfl rfl ?_
    refine gr_iconst 3 X dX3_faultOfDay_52 (by decide) ?_
    refine gr_icmp_ge 64 X dX3_faultOfDay_53 (by decide) (fun h3 => ?_) (fun h3 => ?_)
    · rw [if_pos h3] at hf
      refine gr_iload X dX3_faultOfDay_64 4 rfl ?_
      obtain ⟨v4, M5, q6, hf⟩ := gz_bd2e hf
      refine gr_callSI (asF := fun _ => [.int x5]) [.int x5] X (c3_isSign q6) rfl wm_RX3_35 rfl (by decide) (by decide) rfl (Nat.le_of_ble_eq_true rfl) hc dX3_faultOfDay_66 ?_
      refine gr_sub (lv' := [(1, .ref (gx_ad x 1)), (2, .int x2), (3, .int x3), (4, .int x4)]) [0, 1, 2, 3] rfl ?_
      exact b3_faultOfDay_69 X hc hE hc7 _ _ _ _ _ hf
    · rw [if_neg h3] at hf
      refine gr_iload X dX3_faultOfDay_56 4 rfl ?_
      obtain ⟨v7, M8, q9, hf⟩ := gz_bd2e hf
      refine gr_callSI (asF := fun _ => [.int x5]) [.int x5] X (c3_isDigit q9) rfl wm_RX3_42 rfl (by decide) (by decide) rfl (Nat.le_of_ble_eq_true rfl) hc dX3_faultOfDay_58 ?_
      refine gr_goto 69 X dX3_faultOfDay_61 (by decide) ?_
      refine gr_sub (lv' := [(1, .ref (gx_ad x 1)), (2, .int x2), (3, .int x3), (4, .int x4)]) [0, 1, 2, 3] rfl ?_
      exact b3_faultOfDay_69 X hc hE hc7 _ _ _ _ _ hf

def f3_faultOfDay_7 : Nat → Int32 → Int32 → Int32 → gz_M → Option (Int32 × gz_M)
  | 0, _, _, _, _ => none
  | n + 1, x2, x3, x4, M0 => if (M0.1 1 1) ≤ x4 then (if x3 = 0 then (some (0, M0)) else (some ((-1) - (M0.1 1 1), M0))) else (gz_bd2 (f10_get x4 M0) fun v3 M4 => if x3 = 0 then (gz_bd2 (f3_kindOfChange v3 M4) fun v7 M8 => f3_faultOfDay_34 (f3_faultOfDay_7 n) v7 x3 x4 v3 M8) else (f3_faultOfDay_34 (f3_faultOfDay_7 n) x2 x3 x4 v3 M4))
theorem b3_faultOfDay_7 {x : gz_X} {pf : Nat → Bool} {l : Launch} {r : Int32} {M' : gz_M} (X : gz_Ok x cX3_faultOfDay RX3 8 2 gz_cfC pf l) (hc : gx_cells x ≤ (gx_R x).cells ∧ gx_slots x ≤ (gx_R x).slots) (hE : gz_EI x cX3_faultOfDay .int r M') : ∀ (n : Nat) (x2 : Int32) (x3 : Int32) (x4 : Int32) (M0 : gz_M), f3_faultOfDay_7 n x2 x3 x4 M0 = some (r, M') → gz_At x 7 [(1, .ref (gx_ad x 1)), (2, .int x2), (3, .int x3), (4, .int x4)] [] M0 := by
  intro n
  induction n with
  | zero =>
    intro x2 x3 x4 M0  hf
    rw [f3_faultOfDay_7] at hf
    cases hf
  | succ n ih =>
    intro x2 x3 x4 M0  hf
    rw [f3_faultOfDay_7] at hf
    refine gr_iload X dX3_faultOfDay_7 3 rfl ?_
    refine gr_aload_n X dX3_faultOfDay_9 0 rfl rfl ?_
    refine gf10_1 X wf_RX3_18 dX3_faultOfDay_10 ?_
    refine gr_icmp_ge 122 X dX3_faultOfDay_13 (by decide) (fun h1 => ?_) (fun h1 => ?_)
    · rw [if_pos h1] at hf
      refine gr_iload_n X dX3_faultOfDay_122 2 rfl rfl ?_
      refine gr_if_ne 130 X dX3_faultOfDay_123 (by decide) (fun h2 => ?_) (fun h2 => ?_)
      · rw [if_pos h2] at hf
        refine gr_iconst 0 X dX3_faultOfDay_126 (by decide) ?_
        refine gr_goto 136 X dX3_faultOfDay_127 (by decide) ?_
        exact gz_EIu hE hf rfl dX3_faultOfDay_136
      · rw [if_neg h2] at hf
        refine gr_iconst (-1) X dX3_faultOfDay_130 (by decide) ?_
        refine gr_aload_n X dX3_faultOfDay_131 0 rfl rfl ?_
        refine gf10_1 X wf_RX3_18 dX3_faultOfDay_132 ?_
        refine gr_isub X dX3_faultOfDay_135 ?_
        exact gz_EIu hE hf rfl dX3_faultOfDay_136
    · rw [if_neg h1] at hf
      refine gr_aload_n X dX3_faultOfDay_16 0 rfl rfl ?_
      refine gr_iload X dX3_faultOfDay_17 3 rfl ?_
      obtain ⟨v3, M4, q5, hf⟩ := gz_bd2e hf
      refine gr_callI (asF := fun ad => [.ref (ad 1), .int x4]) [.int x4] X (c10_get q5) rfl wm_RX3_23 rfl (X.kd gk_C1).1 ((X.kd gk_C1).2 _ _ _ _) rfl (by decide) (by decide) rfl (Nat.le_of_ble_eq_true rfl) hc dX3_faultOfDay_19 ?_
      refine gr_istore [(5, .int v3), (1, .ref (gx_ad x 1)), (2, .int x2), (3, .int x3), (4, .int x4)] X dX3_faultOfDay_22 rfl (by decide) rfl ?_
      refine gr_iload_n X dX3_faultOfDay_24 3 rfl rfl ?_
      refine gr_if_ne 34 X dX3_faultOfDay_25 (by decide) (fun h6 => ?_) (fun h6 => ?_)
      · rw [if_pos h6] at hf
        refine gr_iload X dX3_faultOfDay_28 0 rfl ?_
        obtain ⟨v7, M8, q9, hf⟩ := gz_bd2e hf
        refine gr_callSI (asF := fun _ => [.int v3]) [.int v3] X (c3_kindOfChange q9) rfl wm_RX3_39 rfl (by decide) (by decide) rfl (Nat.le_of_ble_eq_true rfl) hc dX3_faultOfDay_30 ?_
        refine gr_istore_n [(2, .int v7), (5, .int v3), (1, .ref (gx_ad x 1)), (3, .int x3), (4, .int x4)] X dX3_faultOfDay_33 rfl rfl (by decide) rfl ?_
        refine gr_sub (lv' := [(1, .ref (gx_ad x 1)), (2, .int v7), (3, .int x3), (4, .int x4), (5, .int v3)]) [2, 0, 3, 4, 1] rfl ?_
        exact b3_faultOfDay_34 X hc hE ih _ _ _ _ _ hf
      · rw [if_neg h6] at hf
        refine gr_sub (lv' := [(1, .ref (gx_ad x 1)), (2, .int x2), (3, .int x3), (4, .int x4), (5, .int v3)]) [1, 2, 3, 4, 0] rfl ?_
        exact b3_faultOfDay_34 X hc hE ih _ _ _ _ _ hf

def f3_faultOfDay (M0 : gz_M) : Option (Int32 × gz_M) := f3_faultOfDay_7 gz_FU (-1) 0 0 M0
set_option maxRecDepth 100000 in
theorem c3_faultOfDay {pf : Nat → Bool} {l : Launch} {r : Int32} {M0 M' : gz_M} (hf : f3_faultOfDay M0 = some (r, M')) : gz_CI l gz_cfC yX3_faultOfDay cX3_faultOfDay 8 2 .int (fun ad => [.ref (ad 3), .ref (ad 1)]) pf M0 r M' := by
  refine gz_ofI (by decide +kernel) (fun _ => Nat.le_of_ble_eq_true rfl) (fun x X hc hE => ?_)
  show gz_At x 0 [(0, .ref (gx_ad x 3)), (1, .ref (gx_ad x 1))] [] M0
  unfold f3_faultOfDay at hf
  refine gr_iconst (-1) X dX3_faultOfDay_0 (by decide) ?_
  refine gr_istore_n [(2, .int (-1)), (0, .ref (gx_ad x 3)), (1, .ref (gx_ad x 1))] X dX3_faultOfDay_1 rfl rfl (by decide) rfl ?_
  refine gr_iconst 0 X dX3_faultOfDay_2 (by decide) ?_
  refine gr_istore_n [(3, .int 0), (2, .int (-1)), (0, .ref (gx_ad x 3)), (1, .ref (gx_ad x 1))] X dX3_faultOfDay_3 rfl rfl (by decide) rfl ?_
  refine gr_iconst 0 X dX3_faultOfDay_4 (by decide) ?_
  refine gr_istore [(4, .int 0), (3, .int 0), (2, .int (-1)), (0, .ref (gx_ad x 3)), (1, .ref (gx_ad x 1))] X dX3_faultOfDay_5 rfl (by decide) rfl ?_
  refine gr_sub (lv' := [(1, .ref (gx_ad x 1)), (2, .int (-1)), (3, .int 0), (4, .int 0)]) [4, 2, 1, 0] rfl ?_
  exact b3_faultOfDay_7 X hc hE _ _ _ _ _ hf

def f7_clear_7 (k : Nat) : Nat → Int32 → gz_M → Option (gz_M)
  | 0, _, _ => none
  | n + 1, x1, M0 => if 4 ≤ x1 then (some M0) else (gz_ck (gz_inb x1 4) <| gz_lt (gz_w M0 (k + 7) x1.toNatClampNeg 0) fun M3 => gz_ck (gz_inb x1 4) <| gz_lt (gz_w M3 (k + 8) x1.toNatClampNeg 0) fun M5 => gz_ck (gz_inb x1 4) <| gz_bd (fJ_fill ((k + 9) + 1 + x1.toNatClampNeg) 10 0 M5) fun M7 => gz_ck (gz_inb x1 4) <| gz_bd (fJ_fill ((k + 14) + 1 + x1.toNatClampNeg) 8 0 M7) fun M10 => gz_lt (x1 + 1) fun v12 => f7_clear_7 k n v12 M10)
theorem b7_clear_7 {x : gz_X} {pf : Nat → Bool} {l : Launch} {M' : gz_M} (X : gz_Ok x cX7_clear RX7 2 2 gz_cfC pf l) (hc : gx_cells x ≤ (gx_R x).cells ∧ gx_slots x ≤ (gx_R x).slots) (hE : gz_EV x cX7_clear M') {k : Nat} (hk : gz_IsX7 pf k) : ∀ (n : Nat) (x1 : Int32) (M0 : gz_M), f7_clear_7 k n x1 M0 = some M' → gz_At x 7 [(0, .ref (gx_ad x k)), (1, .int x1)] [] M0 := by
  intro n
  induction n with
  | zero =>
    intro x1 M0  hf
    rw [f7_clear_7] at hf
    cases hf
  | succ n ih =>
    intro x1 M0  hf
    rw [f7_clear_7] at hf
    refine gr_iload_n X dX7_clear_7 1 rfl rfl ?_
    refine gr_iconst 4 X dX7_clear_8 (by decide) ?_
    refine gr_icmp_ge 52 X dX7_clear_9 (by decide) (fun h1 => ?_) (fun h1 => ?_)
    · rw [if_pos h1] at hf
      exact gz_EVu hE hf dX7_clear_52
    · rw [if_neg h1] at hf
      refine gr_aload_n X dX7_clear_12 0 rfl rfl ?_
      refine gf7_7 X (gk_X7o hk) wf_RX7_35 dX7_clear_13 ?_
      refine gr_iload_n X dX7_clear_16 1 rfl rfl ?_
      refine gr_iconst 0 X dX7_clear_17 (by decide) ?_
      obtain ⟨h2, hf⟩ := gz_cke hf
      obtain ⟨M3, eM3, hf⟩ := gz_lte hf
      refine gr_iastore X (gk_X77 hk) (gz_inp h2) eM3 dX7_clear_18 ?_
      refine gr_aload_n X dX7_clear_19 0 rfl rfl ?_
      refine gf7_8 X (gk_X7o hk) wf_RX7_38 dX7_clear_20 ?_
      refine gr_iload_n X dX7_clear_23 1 rfl rfl ?_
      refine gr_iconst 0 X dX7_clear_24 (by decide) ?_
      obtain ⟨h4, hf⟩ := gz_cke hf
      obtain ⟨M5, eM5, hf⟩ := gz_lte hf
      refine gr_iastore X (gk_X78 hk) (gz_inp h4) eM5 dX7_clear_25 ?_
      refine gr_aload_n X dX7_clear_26 0 rfl rfl ?_
      refine gf7_9 X (gk_X7o hk) wf_RX7_43 dX7_clear_27 ?_
      refine gr_iload_n X dX7_clear_30 1 rfl rfl ?_
      obtain ⟨h6, hf⟩ := gz_cke hf
      refine gr_aaload X (gk_X79 hk) (gz_inp h6) dX7_clear_31 ?_
      refine gr_iconst 0 X dX7_clear_32 (by decide) ?_
      obtain ⟨M7, q8, hf⟩ := gz_bde hf
      refine gr_callSV (asF := fun ad => [.ref (ad ((k + 9) + 1 + x1.toNatClampNeg)), .int 0]) [.ref (gx_ad x ((k + 9) + 1 + x1.toNatClampNeg)), .int 0] X (cJ_fill (gk_X79r hk (gz_inl (gz_inp h6))) (by decide) q8) rfl wm_RX7_49 rfl (by decide) (by decide) rfl (Nat.le_of_ble_eq_true rfl) hc dX7_clear_33 ?_
      refine gr_aload_n X dX7_clear_36 0 rfl rfl ?_
      refine gf7_10 X (gk_X7o hk) wf_RX7_46 dX7_clear_37 ?_
      refine gr_iload_n X dX7_clear_40 1 rfl rfl ?_
      obtain ⟨h9, hf⟩ := gz_cke hf
      refine gr_aaload X (gk_X714 hk) (gz_inp h9) dX7_clear_41 ?_
      refine gr_iconst 0 X dX7_clear_42 (by decide) ?_
      obtain ⟨M10, q11, hf⟩ := gz_bde hf
      refine gr_callSV (asF := fun ad => [.ref (ad ((k + 14) + 1 + x1.toNatClampNeg)), .int 0]) [.ref (gx_ad x ((k + 14) + 1 + x1.toNatClampNeg)), .int 0] X (cJ_fill (gk_X714r hk (gz_inl (gz_inp h9))) (by decide) q11) rfl wm_RX7_49 rfl (by decide) (by decide) rfl (Nat.le_of_ble_eq_true rfl) hc dX7_clear_43 ?_
      obtain ⟨v12, ev12, hf⟩ := gz_lte hf
      refine gr_iinc 1 [(1, .int v12), (0, .ref (gx_ad x k))] X dX7_clear_46 1 rfl (by decide) ev12 (by decide) rfl ?_
      refine gr_goto 7 X dX7_clear_49 (by decide) ?_
      refine gr_sub (lv' := [(0, .ref (gx_ad x k)), (1, .int v12)]) [1, 0] rfl ?_
      exact ih _ _ hf

def f7_clear (k : Nat) (M0 : gz_M) : Option (gz_M) := gz_lt (gz_w M0 k 0 0) fun M1 => f7_clear_7 k gz_FU 0 M1
set_option maxRecDepth 100000 in
theorem c7_clear {pf : Nat → Bool} {l : Launch} {M0 M' : gz_M} {k : Nat} (hk : gz_IsX7 pf k) (hf : f7_clear k M0 = some M') : gz_CV l gz_cfC yX7_clear cX7_clear 2 2 (fun ad => [.ref (ad k)]) pf M0 M' := by
  refine gz_ofV (by decide +kernel) (fun _ => Nat.le_of_ble_eq_true rfl) (fun x X hc hE => ?_)
  show gz_At x 0 [(0, .ref (gx_ad x k))] [] M0
  unfold f7_clear at hf
  refine gr_aload_n X dX7_clear_0 0 rfl rfl ?_
  refine gr_iconst 0 X dX7_clear_1 (by decide) ?_
  obtain ⟨M1, eM1, hf⟩ := gz_lte hf
  refine gp7_0 X (gk_X7o hk) wf_RX7_9 eM1 dX7_clear_2 ?_
  refine gr_iconst 0 X dX7_clear_5 (by decide) ?_
  refine gr_istore_n [(1, .int 0), (0, .ref (gx_ad x k))] X dX7_clear_6 rfl rfl (by decide) rfl ?_
  refine gr_sub (lv' := [(0, .ref (gx_ad x k)), (1, .int 0)]) [1, 0] rfl ?_
  exact b7_clear_7 X hc hE hk _ _ _ hf

def f11_isMode (a0 : Int32) (M0 : gz_M) : Option (Int32 × gz_M) := if a0 < 0 then (some (0, M0)) else (if 4 ≤ a0 then (some (0, M0)) else (some (1, M0)))
set_option maxRecDepth 100000 in
theorem c11_isMode {pf : Nat → Bool} {l : Launch} {r : Int32} {M0 M' : gz_M} {a0 : Int32} (hf : f11_isMode a0 M0 = some (r, M')) : gz_CI l gz_cfC yX11_isMode cX11_isMode 1 1 .boolean (fun _ => [.int a0]) pf M0 r M' := by
  refine gz_ofI (by decide +kernel) (fun _ => Nat.le_of_ble_eq_true rfl) (fun x X hc hE => ?_)
  show gz_At x 0 [(0, .int a0)] [] M0
  unfold f11_isMode at hf
  refine gr_iload_n X dX11_isMode_0 0 rfl rfl ?_
  refine gr_if_lt 13 X dX11_isMode_1 (by decide) (fun h1 => ?_) (fun h1 => ?_)
  · rw [if_pos h1] at hf
    refine gr_iconst 0 X dX11_isMode_13 (by decide) ?_
    exact gz_EIu hE hf rfl dX11_isMode_14
  · rw [if_neg h1] at hf
    refine gr_iload_n X dX11_isMode_4 0 rfl rfl ?_
    refine gr_iconst 4 X dX11_isMode_5 (by decide) ?_
    refine gr_icmp_ge 13 X dX11_isMode_6 (by decide) (fun h2 => ?_) (fun h2 => ?_)
    · rw [if_pos h2] at hf
      refine gr_iconst 0 X dX11_isMode_13 (by decide) ?_
      exact gz_EIu hE hf rfl dX11_isMode_14
    · rw [if_neg h2] at hf
      refine gr_iconst 1 X dX11_isMode_9 (by decide) ?_
      refine gr_goto 14 X dX11_isMode_10 (by decide) ?_
      exact gz_EIu hE hf rfl dX11_isMode_14

def f7_atFirst (k : Nat) (a0 : Int32) (M0 : gz_M) : Option (Int32 × gz_M) := gz_bd2 (f11_isMode a0 M0) fun v1 M2 => if v1 = 0 then (some (0, M2)) else (gz_ck (gz_inb a0 4) <| some (M2.1 (k + 8) a0.toNatClampNeg, M2))
set_option maxRecDepth 100000 in
theorem c7_atFirst {pf : Nat → Bool} {l : Launch} {r : Int32} {M0 M' : gz_M} {k : Nat} {a0 : Int32} (hk : gz_IsX7 pf k) (hf : f7_atFirst k a0 M0 = some (r, M')) : gz_CI l gz_cfC yX7_atFirst cX7_atFirst 2 2 .int (fun ad => [.ref (ad k), .int a0]) pf M0 r M' := by
  refine gz_ofI (by decide +kernel) (fun _ => Nat.le_of_ble_eq_true rfl) (fun x X hc hE => ?_)
  show gz_At x 0 [(0, .ref (gx_ad x k)), (1, .int a0)] [] M0
  unfold f7_atFirst at hf
  refine gr_iload_n X dX7_atFirst_0 1 rfl rfl ?_
  obtain ⟨v1, M2, q3, hf⟩ := gz_bd2e hf
  refine gr_callSI (asF := fun _ => [.int a0]) [.int a0] X (c11_isMode q3) rfl wm_RX7_55 rfl (by decide) (by decide) rfl (Nat.le_of_ble_eq_true rfl) hc dX7_atFirst_1 ?_
  refine gr_if_eq 16 X dX7_atFirst_4 (by decide) (fun h4 => ?_) (fun h4 => ?_)
  · rw [if_pos h4] at hf
    refine gr_iconst 0 X dX7_atFirst_16 (by decide) ?_
    exact gz_EIu hE hf rfl dX7_atFirst_17
  · rw [if_neg h4] at hf
    refine gr_aload_n X dX7_atFirst_7 0 rfl rfl ?_
    refine gf7_8 X (gk_X7o hk) wf_RX7_38 dX7_atFirst_8 ?_
    refine gr_iload_n X dX7_atFirst_11 1 rfl rfl ?_
    obtain ⟨h5, hf⟩ := gz_cke hf
    refine gr_iaload X (gk_X78 hk) (gz_inp h5) dX7_atFirst_12 ?_
    refine gr_goto 17 X dX7_atFirst_13 (by decide) ?_
    exact gz_EIu hE hf rfl dX7_atFirst_17

def f7_after_12 (k : Nat) : Nat → Int32 → Int32 → Int32 → Int32 → gz_M → Option (Int32 × gz_M)
  | 0, _, _, _, _, _ => none
  | n + 1, x1, x2, x3, x4, M0 => if 10 ≤ x4 then (some (x3, M0)) else (if ((gz_shr x2 x4) &&& 1) = 0 then (gz_lt (x3 ||| 0) fun v3 => gz_lt (x4 + 1) fun v4 => f7_after_12 k n x1 x2 v3 v4 M0) else (gz_ck (gz_inb x1 4) <| gz_ck (gz_inb x4 10) <| gz_lt (x3 ||| (M0.1 ((k + 9) + 1 + x1.toNatClampNeg) x4.toNatClampNeg)) fun v7 => gz_lt (x4 + 1) fun v8 => f7_after_12 k n x1 x2 v7 v8 M0))
theorem b7_after_12 {x : gz_X} {pf : Nat → Bool} {l : Launch} {r : Int32} {M' : gz_M} (X : gz_Ok x cX7_after RX7 5 2 gz_cfC pf l) (hc : gx_cells x ≤ (gx_R x).cells ∧ gx_slots x ≤ (gx_R x).slots) (hE : gz_EI x cX7_after .int r M') {k : Nat} (hk : gz_IsX7 pf k) : ∀ (n : Nat) (x1 : Int32) (x2 : Int32) (x3 : Int32) (x4 : Int32) (M0 : gz_M), f7_after_12 k n x1 x2 x3 x4 M0 = some (r, M') → gz_At x 12 [(0, .ref (gx_ad x k)), (1, .int x1), (2, .int x2), (3, .int x3), (4, .int x4)] [] M0 := by
  intro n
  induction n with
  | zero =>
    intro x1 x2 x3 x4 M0  hf
    rw [f7_after_12] at hf
    cases hf
  | succ n ih =>
    intro x1 x2 x3 x4 M0  hf
    rw [f7_after_12] at hf
    refine gr_iload X dX7_after_12 4 rfl ?_
    refine gr_bipush 10 X dX7_after_14 (by decide) ?_
    refine gr_icmp_ge 50 X dX7_after_16 (by decide) (fun h1 => ?_) (fun h1 => ?_)
    · rw [if_pos h1] at hf
      refine gr_iload_n X dX7_after_50 3 rfl rfl ?_
      exact gz_EIu hE hf rfl dX7_after_51
    · rw [if_neg h1] at hf
      refine gr_iload_n X dX7_after_19 3 rfl rfl ?_
      refine gr_iload_n X dX7_after_20 2 rfl rfl ?_
      refine gr_iload X dX7_after_21 4 rfl ?_
      refine gr_ishr X dX7_after_23 ?_
      refine gr_iconst 1 X dX7_after_24 (by decide) ?_
      refine gr_iand X dX7_after_25 ?_
      refine gr_if_eq 41 X dX7_after_26 (by decide) (fun h2 => ?_) (fun h2 => ?_)
      · rw [if_pos h2] at hf
        refine gr_iconst 0 X dX7_after_41 (by decide) ?_
        refine gr_ior X dX7_after_42 ?_
        obtain ⟨v3, ev3, hf⟩ := gz_lte hf
        refine gr_istore_n [(3, .int v3), (0, .ref (gx_ad x k)), (1, .int x1), (2, .int x2), (4, .int x4)] X dX7_after_43 ev3 rfl (by decide) rfl ?_
        obtain ⟨v4, ev4, hf⟩ := gz_lte hf
        refine gr_iinc 1 [(4, .int v4), (3, .int v3), (0, .ref (gx_ad x k)), (1, .int x1), (2, .int x2)] X dX7_after_44 4 rfl (by decide) ev4 (by decide) rfl ?_
        refine gr_goto 12 X dX7_after_47 (by decide) ?_
        refine gr_sub (lv' := [(0, .ref (gx_ad x k)), (1, .int x1), (2, .int x2), (3, .int v3), (4, .int v4)]) [2, 3, 4, 1, 0] rfl ?_
        exact ih _ _ _ _ _ hf
      · rw [if_neg h2] at hf
        refine gr_aload_n X dX7_after_29 0 rfl rfl ?_
        refine gf7_9 X (gk_X7o hk) wf_RX7_43 dX7_after_30 ?_
        refine gr_iload_n X dX7_after_33 1 rfl rfl ?_
        obtain ⟨h5, hf⟩ := gz_cke hf
        refine gr_aaload X (gk_X79 hk) (gz_inp h5) dX7_after_34 ?_
        refine gr_iload X dX7_after_35 4 rfl ?_
        obtain ⟨h6, hf⟩ := gz_cke hf
        refine gr_iaload X (gk_X79r hk (gz_inl (gz_inp h5))) (gz_inp h6) dX7_after_37 ?_
        refine gr_goto 42 X dX7_after_38 (by decide) ?_
        refine gr_ior X dX7_after_42 ?_
        obtain ⟨v7, ev7, hf⟩ := gz_lte hf
        refine gr_istore_n [(3, .int v7), (0, .ref (gx_ad x k)), (1, .int x1), (2, .int x2), (4, .int x4)] X dX7_after_43 ev7 rfl (by decide) rfl ?_
        obtain ⟨v8, ev8, hf⟩ := gz_lte hf
        refine gr_iinc 1 [(4, .int v8), (3, .int v7), (0, .ref (gx_ad x k)), (1, .int x1), (2, .int x2)] X dX7_after_44 4 rfl (by decide) ev8 (by decide) rfl ?_
        refine gr_goto 12 X dX7_after_47 (by decide) ?_
        refine gr_sub (lv' := [(0, .ref (gx_ad x k)), (1, .int x1), (2, .int x2), (3, .int v7), (4, .int v8)]) [2, 3, 4, 1, 0] rfl ?_
        exact ih _ _ _ _ _ hf

def f7_after (k : Nat) (a0 : Int32) (a1 : Int32) (M0 : gz_M) : Option (Int32 × gz_M) := gz_bd2 (f11_isMode a0 M0) fun v1 M2 => if v1 = 0 then (some (0, M2)) else (f7_after_12 k gz_FU a0 a1 0 0 M2)
set_option maxRecDepth 100000 in
theorem c7_after {pf : Nat → Bool} {l : Launch} {r : Int32} {M0 M' : gz_M} {k : Nat} {a0 : Int32} {a1 : Int32} (hk : gz_IsX7 pf k) (hf : f7_after k a0 a1 M0 = some (r, M')) : gz_CI l gz_cfC yX7_after cX7_after 5 2 .int (fun ad => [.ref (ad k), .int a0, .int a1]) pf M0 r M' := by
  refine gz_ofI (by decide +kernel) (fun _ => Nat.le_of_ble_eq_true rfl) (fun x X hc hE => ?_)
  show gz_At x 0 [(0, .ref (gx_ad x k)), (1, .int a0), (2, .int a1)] [] M0
  unfold f7_after at hf
  refine gr_iconst 0 X dX7_after_0 (by decide) ?_
  refine gr_istore_n [(3, .int 0), (0, .ref (gx_ad x k)), (1, .int a0), (2, .int a1)] X dX7_after_1 rfl rfl (by decide) rfl ?_
  refine gr_iload_n X dX7_after_2 2 rfl rfl ?_
  obtain ⟨v1, M2, q3, hf⟩ := gz_bd2e hf
  refine gr_callSI (asF := fun _ => [.int a0]) [.int a0] X (c11_isMode q3) rfl wm_RX7_55 rfl (by decide) (by decide) rfl (Nat.le_of_ble_eq_true rfl) hc dX7_after_3 ?_
  refine gr_if_eq 50 X dX7_after_6 (by decide) (fun h4 => ?_) (fun h4 => ?_)
  · rw [if_pos h4] at hf
    refine gr_iload_n X dX7_after_50 0 rfl rfl ?_
    exact gz_EIu hE hf rfl dX7_after_51
  · rw [if_neg h4] at hf
    refine gr_iconst 0 X dX7_after_9 (by decide) ?_
    refine gr_istore [(4, .int 0), (3, .int 0), (0, .ref (gx_ad x k)), (1, .int a0), (2, .int a1)] X dX7_after_10 rfl (by decide) rfl ?_
    refine gr_sub (lv' := [(0, .ref (gx_ad x k)), (1, .int a0), (2, .int a1), (3, .int 0), (4, .int 0)]) [2, 3, 4, 1, 0] rfl ?_
    exact b7_after_12 X hc hE hk _ _ _ _ _ _ hf

def f7_takersOf (k : Nat) (a0 : Int32) (a1 : Int32) (M0 : gz_M) : Option (Int32 × gz_M) := gz_bd2 (f11_isMode a0 M0) fun v1 M2 => if v1 = 0 then (some (0, M2)) else (if a1 < 0 then (some (0, M2)) else (if 8 ≤ a1 then (some (0, M2)) else (gz_ck (gz_inb a0 4) <| gz_ck (gz_inb a1 8) <| some (M2.1 ((k + 14) + 1 + a0.toNatClampNeg) a1.toNatClampNeg, M2))))
set_option maxRecDepth 100000 in
theorem c7_takersOf {pf : Nat → Bool} {l : Launch} {r : Int32} {M0 M' : gz_M} {k : Nat} {a0 : Int32} {a1 : Int32} (hk : gz_IsX7 pf k) (hf : f7_takersOf k a0 a1 M0 = some (r, M')) : gz_CI l gz_cfC yX7_takersOf cX7_takersOf 3 2 .int (fun ad => [.ref (ad k), .int a0, .int a1]) pf M0 r M' := by
  refine gz_ofI (by decide +kernel) (fun _ => Nat.le_of_ble_eq_true rfl) (fun x X hc hE => ?_)
  show gz_At x 0 [(0, .ref (gx_ad x k)), (1, .int a0), (2, .int a1)] [] M0
  unfold f7_takersOf at hf
  refine gr_iload_n X dX7_takersOf_0 1 rfl rfl ?_
  obtain ⟨v1, M2, q3, hf⟩ := gz_bd2e hf
  refine gr_callSI (asF := fun _ => [.int a0]) [.int a0] X (c11_isMode q3) rfl wm_RX7_55 rfl (by decide) (by decide) rfl (Nat.le_of_ble_eq_true rfl) hc dX7_takersOf_1 ?_
  refine gr_if_eq 28 X dX7_takersOf_4 (by decide) (fun h4 => ?_) (fun h4 => ?_)
  · rw [if_pos h4] at hf
    refine gr_iconst 0 X dX7_takersOf_28 (by decide) ?_
    exact gz_EIu hE hf rfl dX7_takersOf_29
  · rw [if_neg h4] at hf
    refine gr_iload_n X dX7_takersOf_7 2 rfl rfl ?_
    refine gr_if_lt 28 X dX7_takersOf_8 (by decide) (fun h5 => ?_) (fun h5 => ?_)
    · rw [if_pos h5] at hf
      refine gr_iconst 0 X dX7_takersOf_28 (by decide) ?_
      exact gz_EIu hE hf rfl dX7_takersOf_29
    · rw [if_neg h5] at hf
      refine gr_iload_n X dX7_takersOf_11 2 rfl rfl ?_
      refine gr_bipush 8 X dX7_takersOf_12 (by decide) ?_
      refine gr_icmp_ge 28 X dX7_takersOf_14 (by decide) (fun h6 => ?_) (fun h6 => ?_)
      · rw [if_pos h6] at hf
        refine gr_iconst 0 X dX7_takersOf_28 (by decide) ?_
        exact gz_EIu hE hf rfl dX7_takersOf_29
      · rw [if_neg h6] at hf
        refine gr_aload_n X dX7_takersOf_17 0 rfl rfl ?_
        refine gf7_10 X (gk_X7o hk) wf_RX7_46 dX7_takersOf_18 ?_
        refine gr_iload_n X dX7_takersOf_21 1 rfl rfl ?_
        obtain ⟨h7, hf⟩ := gz_cke hf
        refine gr_aaload X (gk_X714 hk) (gz_inp h7) dX7_takersOf_22 ?_
        refine gr_iload_n X dX7_takersOf_23 2 rfl rfl ?_
        obtain ⟨h8, hf⟩ := gz_cke hf
        refine gr_iaload X (gk_X714r hk (gz_inl (gz_inp h7))) (gz_inp h8) dX7_takersOf_24 ?_
        refine gr_goto 29 X dX7_takersOf_25 (by decide) ?_
        exact gz_EIu hE hf rfl dX7_takersOf_29

def f7_signsTakenBy_5 (k : Nat) : Nat → Int32 → Int32 → Int32 → Int32 → gz_M → Option (Int32 × gz_M)
  | 0, _, _, _, _, _ => none
  | n + 1, x1, x2, x3, x4, M0 => if 8 ≤ x4 then (some (x3, M0)) else (gz_bd2 (f7_takersOf k x1 x4 M0) fun v2 M3 => if (x2 &&& v2) = 0 then (gz_lt (x3 ||| 0) fun v6 => gz_lt (x4 + 1) fun v7 => f7_signsTakenBy_5 k n x1 x2 v6 v7 M3) else (gz_lt (x3 ||| (gz_shl 1 x4)) fun v8 => gz_lt (x4 + 1) fun v9 => f7_signsTakenBy_5 k n x1 x2 v8 v9 M3))
theorem b7_signsTakenBy_5 {x : gz_X} {pf : Nat → Bool} {l : Launch} {r : Int32} {M' : gz_M} (X : gz_Ok x cX7_signsTakenBy RX7 5 3 gz_cfC pf l) (hc : gx_cells x ≤ (gx_R x).cells ∧ gx_slots x ≤ (gx_R x).slots) (hE : gz_EI x cX7_signsTakenBy .int r M') {k : Nat} (hk : gz_IsX7 pf k) : ∀ (n : Nat) (x1 : Int32) (x2 : Int32) (x3 : Int32) (x4 : Int32) (M0 : gz_M), f7_signsTakenBy_5 k n x1 x2 x3 x4 M0 = some (r, M') → gz_At x 5 [(0, .ref (gx_ad x k)), (1, .int x1), (2, .int x2), (3, .int x3), (4, .int x4)] [] M0 := by
  intro n
  induction n with
  | zero =>
    intro x1 x2 x3 x4 M0  hf
    rw [f7_signsTakenBy_5] at hf
    cases hf
  | succ n ih =>
    intro x1 x2 x3 x4 M0  hf
    rw [f7_signsTakenBy_5] at hf
    refine gr_iload X dX7_signsTakenBy_5 4 rfl ?_
    refine gr_bipush 8 X dX7_signsTakenBy_7 (by decide) ?_
    refine gr_icmp_ge 41 X dX7_signsTakenBy_9 (by decide) (fun h1 => ?_) (fun h1 => ?_)
    · rw [if_pos h1] at hf
      refine gr_iload_n X dX7_signsTakenBy_41 3 rfl rfl ?_
      exact gz_EIu hE hf rfl dX7_signsTakenBy_42
    · rw [if_neg h1] at hf
      refine gr_iload_n X dX7_signsTakenBy_12 3 rfl rfl ?_
      refine gr_iload_n X dX7_signsTakenBy_13 2 rfl rfl ?_
      refine gr_aload_n X dX7_signsTakenBy_14 0 rfl rfl ?_
      refine gr_iload_n X dX7_signsTakenBy_15 1 rfl rfl ?_
      refine gr_iload X dX7_signsTakenBy_16 4 rfl ?_
      obtain ⟨v2, M3, q4, hf⟩ := gz_bd2e hf
      refine gr_callI (asF := fun ad => [.ref (ad k), .int x1, .int x4]) [.int x1, .int x4] X (c7_takersOf hk q4) rfl wm_RX7_59 rfl (X.kd (gk_X7o hk)).1 ((X.kd (gk_X7o hk)).2 _ _ _ _) rfl (by decide) (by decide) rfl (Nat.le_of_ble_eq_true rfl) hc dX7_signsTakenBy_18 ?_
      refine gr_iand X dX7_signsTakenBy_21 ?_
      refine gr_if_eq 32 X dX7_signsTakenBy_22 (by decide) (fun h5 => ?_) (fun h5 => ?_)
      · rw [if_pos h5] at hf
        refine gr_iconst 0 X dX7_signsTakenBy_32 (by decide) ?_
        refine gr_ior X dX7_signsTakenBy_33 ?_
        obtain ⟨v6, ev6, hf⟩ := gz_lte hf
        refine gr_istore_n [(3, .int v6), (0, .ref (gx_ad x k)), (1, .int x1), (2, .int x2), (4, .int x4)] X dX7_signsTakenBy_34 ev6 rfl (by decide) rfl ?_
        obtain ⟨v7, ev7, hf⟩ := gz_lte hf
        refine gr_iinc 1 [(4, .int v7), (3, .int v6), (0, .ref (gx_ad x k)), (1, .int x1), (2, .int x2)] X dX7_signsTakenBy_35 4 rfl (by decide) ev7 (by decide) rfl ?_
        refine gr_goto 5 X dX7_signsTakenBy_38 (by decide) ?_
        refine gr_sub (lv' := [(0, .ref (gx_ad x k)), (1, .int x1), (2, .int x2), (3, .int v6), (4, .int v7)]) [2, 3, 4, 1, 0] rfl ?_
        exact ih _ _ _ _ _ hf
      · rw [if_neg h5] at hf
        refine gr_iconst 1 X dX7_signsTakenBy_25 (by decide) ?_
        refine gr_iload X dX7_signsTakenBy_26 4 rfl ?_
        refine gr_ishl X dX7_signsTakenBy_28 ?_
        refine gr_goto 33 X dX7_signsTakenBy_29 (by decide) ?_
        refine gr_ior X dX7_signsTakenBy_33 ?_
        obtain ⟨v8, ev8, hf⟩ := gz_lte hf
        refine gr_istore_n [(3, .int v8), (0, .ref (gx_ad x k)), (1, .int x1), (2, .int x2), (4, .int x4)] X dX7_signsTakenBy_34 ev8 rfl (by decide) rfl ?_
        obtain ⟨v9, ev9, hf⟩ := gz_lte hf
        refine gr_iinc 1 [(4, .int v9), (3, .int v8), (0, .ref (gx_ad x k)), (1, .int x1), (2, .int x2)] X dX7_signsTakenBy_35 4 rfl (by decide) ev9 (by decide) rfl ?_
        refine gr_goto 5 X dX7_signsTakenBy_38 (by decide) ?_
        refine gr_sub (lv' := [(0, .ref (gx_ad x k)), (1, .int x1), (2, .int x2), (3, .int v8), (4, .int v9)]) [2, 3, 4, 1, 0] rfl ?_
        exact ih _ _ _ _ _ hf

def f7_signsTakenBy (k : Nat) (a0 : Int32) (a1 : Int32) (M0 : gz_M) : Option (Int32 × gz_M) := f7_signsTakenBy_5 k gz_FU a0 a1 0 0 M0
set_option maxRecDepth 100000 in
theorem c7_signsTakenBy {pf : Nat → Bool} {l : Launch} {r : Int32} {M0 M' : gz_M} {k : Nat} {a0 : Int32} {a1 : Int32} (hk : gz_IsX7 pf k) (hf : f7_signsTakenBy k a0 a1 M0 = some (r, M')) : gz_CI l gz_cfC yX7_signsTakenBy cX7_signsTakenBy 5 3 .int (fun ad => [.ref (ad k), .int a0, .int a1]) pf M0 r M' := by
  refine gz_ofI (by decide +kernel) (fun _ => Nat.le_of_ble_eq_true rfl) (fun x X hc hE => ?_)
  show gz_At x 0 [(0, .ref (gx_ad x k)), (1, .int a0), (2, .int a1)] [] M0
  unfold f7_signsTakenBy at hf
  refine gr_iconst 0 X dX7_signsTakenBy_0 (by decide) ?_
  refine gr_istore_n [(3, .int 0), (0, .ref (gx_ad x k)), (1, .int a0), (2, .int a1)] X dX7_signsTakenBy_1 rfl rfl (by decide) rfl ?_
  refine gr_iconst 0 X dX7_signsTakenBy_2 (by decide) ?_
  refine gr_istore [(4, .int 0), (3, .int 0), (0, .ref (gx_ad x k)), (1, .int a0), (2, .int a1)] X dX7_signsTakenBy_3 rfl (by decide) rfl ?_
  refine gr_sub (lv' := [(0, .ref (gx_ad x k)), (1, .int a0), (2, .int a1), (3, .int 0), (4, .int 0)]) [2, 3, 4, 1, 0] rfl ?_
  exact b7_signsTakenBy_5 X hc hE hk _ _ _ _ _ _ hf

def f7_standing_13 (k : Nat) (k1 : Nat) : Nat → Int32 → Int32 → Int32 → Int32 → Int32 → gz_M → Option (Int32 × gz_M)
  | 0, _, _, _, _, _, _ => none
  | n + 1, x1, x4, x5, x6, x7, M0 => if x4 ≤ x7 then (some (x6, M0)) else (gz_bd2 (f5_get k1 x7 M0) fun v2 M3 => gz_bd2 (f7_takersOf k x1 v2 M3) fun v5 M6 => gz_lt (x5 &&& v5) fun v8 => gz_bd2 (f7_after k x1 v8 M6) fun v9 M10 => gz_lt (x7 + 1) fun v12 => f7_standing_13 k k1 n x1 x4 v9 v8 v12 M10)
theorem b7_standing_13 {x : gz_X} {pf : Nat → Bool} {l : Launch} {r : Int32} {M' : gz_M} (X : gz_Ok x cX7_standing RX7 8 3 gz_cfC pf l) (hc : gx_cells x ≤ (gx_R x).cells ∧ gx_slots x ≤ (gx_R x).slots) (hE : gz_EI x cX7_standing .int r M') {k : Nat} {k1 : Nat} (hk : gz_IsX7 pf k) (hk1 : gz_IsX5 pf k1) : ∀ (n : Nat) (x1 : Int32) (x4 : Int32) (x5 : Int32) (x6 : Int32) (x7 : Int32) (M0 : gz_M), f7_standing_13 k k1 n x1 x4 x5 x6 x7 M0 = some (r, M') → gz_At x 13 [(0, .ref (gx_ad x k)), (1, .int x1), (2, .ref (gx_ad x k1)), (4, .int x4), (5, .int x5), (6, .int x6), (7, .int x7)] [] M0 := by
  intro n
  induction n with
  | zero =>
    intro x1 x4 x5 x6 x7 M0  hf
    rw [f7_standing_13] at hf
    cases hf
  | succ n ih =>
    intro x1 x4 x5 x6 x7 M0  hf
    rw [f7_standing_13] at hf
    refine gr_iload X dX7_standing_13 6 rfl ?_
    refine gr_iload X dX7_standing_15 3 rfl ?_
    refine gr_icmp_ge 51 X dX7_standing_17 (by decide) (fun h1 => ?_) (fun h1 => ?_)
    · rw [if_pos h1] at hf
      refine gr_iload X dX7_standing_51 5 rfl ?_
      exact gz_EIu hE hf rfl dX7_standing_53
    · rw [if_neg h1] at hf
      refine gr_iload X dX7_standing_20 4 rfl ?_
      refine gr_aload_n X dX7_standing_22 0 rfl rfl ?_
      refine gr_iload_n X dX7_standing_23 1 rfl rfl ?_
      refine gr_aload_n X dX7_standing_24 2 rfl rfl ?_
      refine gr_iload X dX7_standing_25 6 rfl ?_
      obtain ⟨v2, M3, q4, hf⟩ := gz_bd2e hf
      refine gr_callI (asF := fun ad => [.ref (ad k1), .int x7]) [.int x7] X (c5_get hk1 q4) rfl wm_RX7_67 rfl (X.kd (gk_X5o hk1)).1 ((X.kd (gk_X5o hk1)).2 _ _ _ _) rfl (by decide) (by decide) rfl (Nat.le_of_ble_eq_true rfl) hc dX7_standing_27 ?_
      obtain ⟨v5, M6, q7, hf⟩ := gz_bd2e hf
      refine gr_callI (asF := fun ad => [.ref (ad k), .int x1, .int v2]) [.int x1, .int v2] X (c7_takersOf hk q7) rfl wm_RX7_59 rfl (X.kd (gk_X7o hk)).1 ((X.kd (gk_X7o hk)).2 _ _ _ _) rfl (by decide) (by decide) rfl (Nat.le_of_ble_eq_true rfl) hc dX7_standing_30 ?_
      refine gr_iand X dX7_standing_33 ?_
      obtain ⟨v8, ev8, hf⟩ := gz_lte hf
      refine gr_istore [(6, .int v8), (0, .ref (gx_ad x k)), (1, .int x1), (2, .ref (gx_ad x k1)), (4, .int x4), (5, .int x5), (7, .int x7)] X dX7_standing_34 ev8 (by decide) rfl ?_
      refine gr_aload_n X dX7_standing_36 1 rfl rfl ?_
      refine gr_iload_n X dX7_standing_37 2 rfl rfl ?_
      refine gr_iload X dX7_standing_38 0 rfl ?_
      obtain ⟨v9, M10, q11, hf⟩ := gz_bd2e hf
      refine gr_callI (asF := fun ad => [.ref (ad k), .int x1, .int v8]) [.int x1, .int v8] X (c7_after hk q11) rfl wm_RX7_72 rfl (X.kd (gk_X7o hk)).1 ((X.kd (gk_X7o hk)).2 _ _ _ _) rfl (by decide) (by decide) rfl (Nat.le_of_ble_eq_true rfl) hc dX7_standing_40 ?_
      refine gr_istore [(5, .int v9), (6, .int v8), (0, .ref (gx_ad x k)), (1, .int x1), (2, .ref (gx_ad x k1)), (4, .int x4), (7, .int x7)] X dX7_standing_43 rfl (by decide) rfl ?_
      obtain ⟨v12, ev12, hf⟩ := gz_lte hf
      refine gr_iinc 1 [(7, .int v12), (5, .int v9), (6, .int v8), (0, .ref (gx_ad x k)), (1, .int x1), (2, .ref (gx_ad x k1)), (4, .int x4)] X dX7_standing_45 6 rfl (by decide) ev12 (by decide) rfl ?_
      refine gr_goto 13 X dX7_standing_48 (by decide) ?_
      refine gr_sub (lv' := [(0, .ref (gx_ad x k)), (1, .int x1), (2, .ref (gx_ad x k1)), (4, .int x4), (5, .int v9), (6, .int v8), (7, .int v12)]) [3, 4, 5, 6, 1, 2, 0] rfl ?_
      exact ih _ _ _ _ _ _ hf

def f7_standing (k : Nat) (k1 : Nat) (a0 : Int32) (a2 : Int32) (a3 : Int32) (M0 : gz_M) : Option (Int32 × gz_M) := gz_bd2 (f7_atFirst k a0 M0) fun v1 M2 => f7_standing_13 k k1 gz_FU a0 a3 v1 0 a2 M2
set_option maxRecDepth 100000 in
theorem c7_standing {pf : Nat → Bool} {l : Launch} {r : Int32} {M0 M' : gz_M} {k : Nat} {k1 : Nat} {a0 : Int32} {a2 : Int32} {a3 : Int32} (hk : gz_IsX7 pf k) (hk1 : gz_IsX5 pf k1) (hf : f7_standing k k1 a0 a2 a3 M0 = some (r, M')) : gz_CI l gz_cfC yX7_standing cX7_standing 8 3 .int (fun ad => [.ref (ad k), .int a0, .ref (ad k1), .int a2, .int a3]) pf M0 r M' := by
  refine gz_ofI (by decide +kernel) (fun _ => Nat.le_of_ble_eq_true rfl) (fun x X hc hE => ?_)
  show gz_At x 0 [(0, .ref (gx_ad x k)), (1, .int a0), (2, .ref (gx_ad x k1)), (3, .int a2), (4, .int a3)] [] M0
  unfold f7_standing at hf
  refine gr_aload_n X dX7_standing_0 0 rfl rfl ?_
  refine gr_iload_n X dX7_standing_1 1 rfl rfl ?_
  obtain ⟨v1, M2, q3, hf⟩ := gz_bd2e hf
  refine gr_callI (asF := fun ad => [.ref (ad k), .int a0]) [.int a0] X (c7_atFirst hk q3) rfl wm_RX7_63 rfl (X.kd (gk_X7o hk)).1 ((X.kd (gk_X7o hk)).2 _ _ _ _) rfl (by decide) (by decide) rfl (Nat.le_of_ble_eq_true rfl) hc dX7_standing_2 ?_
  refine gr_istore [(5, .int v1), (0, .ref (gx_ad x k)), (1, .int a0), (2, .ref (gx_ad x k1)), (3, .int a2), (4, .int a3)] X dX7_standing_5 rfl (by decide) rfl ?_
  refine gr_iconst 0 X dX7_standing_7 (by decide) ?_
  refine gr_istore [(6, .int 0), (5, .int v1), (0, .ref (gx_ad x k)), (1, .int a0), (2, .ref (gx_ad x k1)), (3, .int a2), (4, .int a3)] X dX7_standing_8 rfl (by decide) rfl ?_
  refine gr_iload_n X dX7_standing_10 5 rfl rfl ?_
  refine gr_istore [(7, .int a2), (6, .int 0), (5, .int v1), (0, .ref (gx_ad x k)), (1, .int a0), (2, .ref (gx_ad x k1)), (3, .int a2), (4, .int a3)] X dX7_standing_11 rfl (by decide) rfl ?_
  refine gr_sub (lv' := [(0, .ref (gx_ad x k)), (1, .int a0), (2, .ref (gx_ad x k1)), (4, .int a3), (5, .int v1), (6, .int 0), (7, .int a2)]) [3, 4, 5, 7, 2, 1, 0] rfl ?_
  exact b7_standing_13 X hc hE hk hk1 _ _ _ _ _ _ _ hf

def f7_winner_2 (k : Nat) : Nat → Int32 → Int32 → Int32 → gz_M → Option (Int32 × gz_M)
  | 0, _, _, _, _ => none
  | n + 1, x1, x2, x3, M0 => if (M0.1 k 0) ≤ x3 then (some ((-1), M0)) else (gz_ck (gz_inb x3 8) <| if (M0.1 (k + 1) x3.toNatClampNeg) = x1 then (gz_ck (gz_inb x3 8) <| if ((M0.1 (k + 5) x3.toNatClampNeg) &&& x2) = 0 then (gz_lt (x3 + 1) fun v6 => f7_winner_2 k n x1 x2 v6 M0) else (some (x3, M0))) else (gz_lt (x3 + 1) fun v7 => f7_winner_2 k n x1 x2 v7 M0))
theorem b7_winner_2 {x : gz_X} {pf : Nat → Bool} {l : Launch} {r : Int32} {M' : gz_M} (X : gz_Ok x cX7_winner RX7 4 1 gz_cfC pf l) (hc : gx_cells x ≤ (gx_R x).cells ∧ gx_slots x ≤ (gx_R x).slots) (hE : gz_EI x cX7_winner .int r M') {k : Nat} (hk : gz_IsX7 pf k) : ∀ (n : Nat) (x1 : Int32) (x2 : Int32) (x3 : Int32) (M0 : gz_M), f7_winner_2 k n x1 x2 x3 M0 = some (r, M') → gz_At x 2 [(0, .ref (gx_ad x k)), (1, .int x1), (2, .int x2), (3, .int x3)] [] M0 := by
  intro n
  induction n with
  | zero =>
    intro x1 x2 x3 M0  hf
    rw [f7_winner_2] at hf
    cases hf
  | succ n ih =>
    intro x1 x2 x3 M0  hf
    rw [f7_winner_2] at hf
    refine gr_iload_n X dX7_winner_2 3 rfl rfl ?_
    refine gr_aload_n X dX7_winner_3 0 rfl rfl ?_
    refine gf7_0 X (gk_X7o hk) wf_RX7_9 dX7_winner_4 ?_
    refine gr_icmp_ge 39 X dX7_winner_7 (by decide) (fun h1 => ?_) (fun h1 => ?_)
    · rw [if_pos h1] at hf
      refine gr_iconst (-1) X dX7_winner_39 (by decide) ?_
      exact gz_EIu hE hf rfl dX7_winner_40
    · rw [if_neg h1] at hf
      refine gr_aload_n X dX7_winner_10 0 rfl rfl ?_
      refine gf7_1 X (gk_X7o hk) wf_RX7_15 dX7_winner_11 ?_
      refine gr_iload_n X dX7_winner_14 3 rfl rfl ?_
      obtain ⟨h2, hf⟩ := gz_cke hf
      refine gr_iaload X (gk_X71 hk) (gz_inp h2) dX7_winner_15 ?_
      refine gr_iload_n X dX7_winner_16 1 rfl rfl ?_
      refine gr_icmp_ne 33 X dX7_winner_17 (by decide) (fun h3 => ?_) (fun h3 => ?_)
      · rw [if_pos h3] at hf
        refine gr_aload_n X dX7_winner_20 0 rfl rfl ?_
        refine gf7_5 X (gk_X7o hk) wf_RX7_28 dX7_winner_21 ?_
        refine gr_iload_n X dX7_winner_24 3 rfl rfl ?_
        obtain ⟨h4, hf⟩ := gz_cke hf
        refine gr_iaload X (gk_X75 hk) (gz_inp h4) dX7_winner_25 ?_
        refine gr_iload_n X dX7_winner_26 2 rfl rfl ?_
        refine gr_iand X dX7_winner_27 ?_
        refine gr_if_eq 33 X dX7_winner_28 (by decide) (fun h5 => ?_) (fun h5 => ?_)
        · rw [if_pos h5] at hf
          obtain ⟨v6, ev6, hf⟩ := gz_lte hf
          refine gr_iinc 1 [(3, .int v6), (0, .ref (gx_ad x k)), (1, .int x1), (2, .int x2)] X dX7_winner_33 3 rfl (by decide) ev6 (by decide) rfl ?_
          refine gr_goto 2 X dX7_winner_36 (by decide) ?_
          refine gr_sub (lv' := [(0, .ref (gx_ad x k)), (1, .int x1), (2, .int x2), (3, .int v6)]) [1, 2, 3, 0] rfl ?_
          exact ih _ _ _ _ hf
        · rw [if_neg h5] at hf
          refine gr_iload_n X dX7_winner_31 3 rfl rfl ?_
          exact gz_EIu hE hf rfl dX7_winner_32
      · rw [if_neg h3] at hf
        obtain ⟨v7, ev7, hf⟩ := gz_lte hf
        refine gr_iinc 1 [(3, .int v7), (0, .ref (gx_ad x k)), (1, .int x1), (2, .int x2)] X dX7_winner_33 3 rfl (by decide) ev7 (by decide) rfl ?_
        refine gr_goto 2 X dX7_winner_36 (by decide) ?_
        refine gr_sub (lv' := [(0, .ref (gx_ad x k)), (1, .int x1), (2, .int x2), (3, .int v7)]) [1, 2, 3, 0] rfl ?_
        exact ih _ _ _ _ hf

def f7_winner (k : Nat) (a0 : Int32) (a1 : Int32) (M0 : gz_M) : Option (Int32 × gz_M) := f7_winner_2 k gz_FU a0 a1 0 M0
set_option maxRecDepth 100000 in
theorem c7_winner {pf : Nat → Bool} {l : Launch} {r : Int32} {M0 M' : gz_M} {k : Nat} {a0 : Int32} {a1 : Int32} (hk : gz_IsX7 pf k) (hf : f7_winner k a0 a1 M0 = some (r, M')) : gz_CI l gz_cfC yX7_winner cX7_winner 4 1 .int (fun ad => [.ref (ad k), .int a0, .int a1]) pf M0 r M' := by
  refine gz_ofI (by decide +kernel) (fun _ => Nat.le_of_ble_eq_true rfl) (fun x X hc hE => ?_)
  show gz_At x 0 [(0, .ref (gx_ad x k)), (1, .int a0), (2, .int a1)] [] M0
  unfold f7_winner at hf
  refine gr_iconst 0 X dX7_winner_0 (by decide) ?_
  refine gr_istore_n [(3, .int 0), (0, .ref (gx_ad x k)), (1, .int a0), (2, .int a1)] X dX7_winner_1 rfl rfl (by decide) rfl ?_
  refine gr_sub (lv' := [(0, .ref (gx_ad x k)), (1, .int a0), (2, .int a1), (3, .int 0)]) [1, 2, 3, 0] rfl ?_
  exact b7_winner_2 X hc hE hk _ _ _ _ _ hf

def f7_matching_5 (k : Nat) : Nat → Int32 → Int32 → Int32 → Int32 → gz_M → Option (Int32 × gz_M)
  | 0, _, _, _, _, _ => none
  | n + 1, x1, x2, x3, x4, M0 => if (M0.1 k 0) ≤ x4 then (some (x3, M0)) else (gz_ck (gz_inb x4 8) <| if (M0.1 (k + 1) x4.toNatClampNeg) = x1 then (gz_ck (gz_inb x4 8) <| if ((M0.1 (k + 5) x4.toNatClampNeg) &&& x2) = 0 then (gz_lt (x3 ||| 0) fun v6 => gz_lt (x4 + 1) fun v7 => f7_matching_5 k n x1 x2 v6 v7 M0) else (gz_lt (x3 ||| (gz_shl 1 x4)) fun v8 => gz_lt (x4 + 1) fun v9 => f7_matching_5 k n x1 x2 v8 v9 M0)) else (gz_lt (x3 ||| 0) fun v10 => gz_lt (x4 + 1) fun v11 => f7_matching_5 k n x1 x2 v10 v11 M0))
theorem b7_matching_5 {x : gz_X} {pf : Nat → Bool} {l : Launch} {r : Int32} {M' : gz_M} (X : gz_Ok x cX7_matching RX7 5 1 gz_cfC pf l) (hc : gx_cells x ≤ (gx_R x).cells ∧ gx_slots x ≤ (gx_R x).slots) (hE : gz_EI x cX7_matching .int r M') {k : Nat} (hk : gz_IsX7 pf k) : ∀ (n : Nat) (x1 : Int32) (x2 : Int32) (x3 : Int32) (x4 : Int32) (M0 : gz_M), f7_matching_5 k n x1 x2 x3 x4 M0 = some (r, M') → gz_At x 5 [(0, .ref (gx_ad x k)), (1, .int x1), (2, .int x2), (3, .int x3), (4, .int x4)] [] M0 := by
  intro n
  induction n with
  | zero =>
    intro x1 x2 x3 x4 M0  hf
    rw [f7_matching_5] at hf
    cases hf
  | succ n ih =>
    intro x1 x2 x3 x4 M0  hf
    rw [f7_matching_5] at hf
    refine gr_iload X dX7_matching_5 4 rfl ?_
    refine gr_aload_n X dX7_matching_7 0 rfl rfl ?_
    refine gf7_0 X (gk_X7o hk) wf_RX7_9 dX7_matching_8 ?_
    refine gr_icmp_ge 54 X dX7_matching_11 (by decide) (fun h1 => ?_) (fun h1 => ?_)
    · rw [if_pos h1] at hf
      refine gr_iload_n X dX7_matching_54 3 rfl rfl ?_
      exact gz_EIu hE hf rfl dX7_matching_55
    · rw [if_neg h1] at hf
      refine gr_iload_n X dX7_matching_14 3 rfl rfl ?_
      refine gr_aload_n X dX7_matching_15 0 rfl rfl ?_
      refine gf7_1 X (gk_X7o hk) wf_RX7_15 dX7_matching_16 ?_
      refine gr_iload X dX7_matching_19 4 rfl ?_
      obtain ⟨h2, hf⟩ := gz_cke hf
      refine gr_iaload X (gk_X71 hk) (gz_inp h2) dX7_matching_21 ?_
      refine gr_iload_n X dX7_matching_22 1 rfl rfl ?_
      refine gr_icmp_ne 45 X dX7_matching_23 (by decide) (fun h3 => ?_) (fun h3 => ?_)
      · rw [if_pos h3] at hf
        refine gr_aload_n X dX7_matching_26 0 rfl rfl ?_
        refine gf7_5 X (gk_X7o hk) wf_RX7_28 dX7_matching_27 ?_
        refine gr_iload X dX7_matching_30 4 rfl ?_
        obtain ⟨h4, hf⟩ := gz_cke hf
        refine gr_iaload X (gk_X75 hk) (gz_inp h4) dX7_matching_32 ?_
        refine gr_iload_n X dX7_matching_33 2 rfl rfl ?_
        refine gr_iand X dX7_matching_34 ?_
        refine gr_if_eq 45 X dX7_matching_35 (by decide) (fun h5 => ?_) (fun h5 => ?_)
        · rw [if_pos h5] at hf
          refine gr_iconst 0 X dX7_matching_45 (by decide) ?_
          refine gr_ior X dX7_matching_46 ?_
          obtain ⟨v6, ev6, hf⟩ := gz_lte hf
          refine gr_istore_n [(3, .int v6), (0, .ref (gx_ad x k)), (1, .int x1), (2, .int x2), (4, .int x4)] X dX7_matching_47 ev6 rfl (by decide) rfl ?_
          obtain ⟨v7, ev7, hf⟩ := gz_lte hf
          refine gr_iinc 1 [(4, .int v7), (3, .int v6), (0, .ref (gx_ad x k)), (1, .int x1), (2, .int x2)] X dX7_matching_48 4 rfl (by decide) ev7 (by decide) rfl ?_
          refine gr_goto 5 X dX7_matching_51 (by decide) ?_
          refine gr_sub (lv' := [(0, .ref (gx_ad x k)), (1, .int x1), (2, .int x2), (3, .int v6), (4, .int v7)]) [2, 3, 4, 1, 0] rfl ?_
          exact ih _ _ _ _ _ hf
        · rw [if_neg h5] at hf
          refine gr_iconst 1 X dX7_matching_38 (by decide) ?_
          refine gr_iload X dX7_matching_39 4 rfl ?_
          refine gr_ishl X dX7_matching_41 ?_
          refine gr_goto 46 X dX7_matching_42 (by decide) ?_
          refine gr_ior X dX7_matching_46 ?_
          obtain ⟨v8, ev8, hf⟩ := gz_lte hf
          refine gr_istore_n [(3, .int v8), (0, .ref (gx_ad x k)), (1, .int x1), (2, .int x2), (4, .int x4)] X dX7_matching_47 ev8 rfl (by decide) rfl ?_
          obtain ⟨v9, ev9, hf⟩ := gz_lte hf
          refine gr_iinc 1 [(4, .int v9), (3, .int v8), (0, .ref (gx_ad x k)), (1, .int x1), (2, .int x2)] X dX7_matching_48 4 rfl (by decide) ev9 (by decide) rfl ?_
          refine gr_goto 5 X dX7_matching_51 (by decide) ?_
          refine gr_sub (lv' := [(0, .ref (gx_ad x k)), (1, .int x1), (2, .int x2), (3, .int v8), (4, .int v9)]) [2, 3, 4, 1, 0] rfl ?_
          exact ih _ _ _ _ _ hf
      · rw [if_neg h3] at hf
        refine gr_iconst 0 X dX7_matching_45 (by decide) ?_
        refine gr_ior X dX7_matching_46 ?_
        obtain ⟨v10, ev10, hf⟩ := gz_lte hf
        refine gr_istore_n [(3, .int v10), (0, .ref (gx_ad x k)), (1, .int x1), (2, .int x2), (4, .int x4)] X dX7_matching_47 ev10 rfl (by decide) rfl ?_
        obtain ⟨v11, ev11, hf⟩ := gz_lte hf
        refine gr_iinc 1 [(4, .int v11), (3, .int v10), (0, .ref (gx_ad x k)), (1, .int x1), (2, .int x2)] X dX7_matching_48 4 rfl (by decide) ev11 (by decide) rfl ?_
        refine gr_goto 5 X dX7_matching_51 (by decide) ?_
        refine gr_sub (lv' := [(0, .ref (gx_ad x k)), (1, .int x1), (2, .int x2), (3, .int v10), (4, .int v11)]) [2, 3, 4, 1, 0] rfl ?_
        exact ih _ _ _ _ _ hf

def f7_matching (k : Nat) (a0 : Int32) (a1 : Int32) (M0 : gz_M) : Option (Int32 × gz_M) := f7_matching_5 k gz_FU a0 a1 0 0 M0
set_option maxRecDepth 100000 in
theorem c7_matching {pf : Nat → Bool} {l : Launch} {r : Int32} {M0 M' : gz_M} {k : Nat} {a0 : Int32} {a1 : Int32} (hk : gz_IsX7 pf k) (hf : f7_matching k a0 a1 M0 = some (r, M')) : gz_CI l gz_cfC yX7_matching cX7_matching 5 1 .int (fun ad => [.ref (ad k), .int a0, .int a1]) pf M0 r M' := by
  refine gz_ofI (by decide +kernel) (fun _ => Nat.le_of_ble_eq_true rfl) (fun x X hc hE => ?_)
  show gz_At x 0 [(0, .ref (gx_ad x k)), (1, .int a0), (2, .int a1)] [] M0
  unfold f7_matching at hf
  refine gr_iconst 0 X dX7_matching_0 (by decide) ?_
  refine gr_istore_n [(3, .int 0), (0, .ref (gx_ad x k)), (1, .int a0), (2, .int a1)] X dX7_matching_1 rfl rfl (by decide) rfl ?_
  refine gr_iconst 0 X dX7_matching_2 (by decide) ?_
  refine gr_istore [(4, .int 0), (3, .int 0), (0, .ref (gx_ad x k)), (1, .int a0), (2, .int a1)] X dX7_matching_3 rfl (by decide) rfl ?_
  refine gr_sub (lv' := [(0, .ref (gx_ad x k)), (1, .int a0), (2, .int a1), (3, .int 0), (4, .int 0)]) [2, 3, 4, 1, 0] rfl ?_
  exact b7_matching_5 X hc hE hk _ _ _ _ _ _ hf

def f7_matchingNothing_4 (k : Nat) : Nat → Int32 → Int32 → Int32 → gz_M → Option (Int32 × gz_M)
  | 0, _, _, _, _ => none
  | n + 1, x1, x2, x3, M0 => if (M0.1 k 0) ≤ x3 then (some (x2, M0)) else (gz_ck (gz_inb x3 8) <| if (M0.1 (k + 1) x3.toNatClampNeg) = x1 then (gz_ck (gz_inb x3 8) <| if (M0.1 (k + 6) x3.toNatClampNeg) = 0 then (gz_lt (x2 ||| 0) fun v6 => gz_lt (x3 + 1) fun v7 => f7_matchingNothing_4 k n x1 v6 v7 M0) else (gz_lt (x2 ||| (gz_shl 1 x3)) fun v8 => gz_lt (x3 + 1) fun v9 => f7_matchingNothing_4 k n x1 v8 v9 M0)) else (gz_lt (x2 ||| 0) fun v10 => gz_lt (x3 + 1) fun v11 => f7_matchingNothing_4 k n x1 v10 v11 M0))
theorem b7_matchingNothing_4 {x : gz_X} {pf : Nat → Bool} {l : Launch} {r : Int32} {M' : gz_M} (X : gz_Ok x cX7_matchingNothing RX7 4 1 gz_cfC pf l) (hc : gx_cells x ≤ (gx_R x).cells ∧ gx_slots x ≤ (gx_R x).slots) (hE : gz_EI x cX7_matchingNothing .int r M') {k : Nat} (hk : gz_IsX7 pf k) : ∀ (n : Nat) (x1 : Int32) (x2 : Int32) (x3 : Int32) (M0 : gz_M), f7_matchingNothing_4 k n x1 x2 x3 M0 = some (r, M') → gz_At x 4 [(0, .ref (gx_ad x k)), (1, .int x1), (2, .int x2), (3, .int x3)] [] M0 := by
  intro n
  induction n with
  | zero =>
    intro x1 x2 x3 M0  hf
    rw [f7_matchingNothing_4] at hf
    cases hf
  | succ n ih =>
    intro x1 x2 x3 M0  hf
    rw [f7_matchingNothing_4] at hf
    refine gr_iload_n X dX7_matchingNothing_4 3 rfl rfl ?_
    refine gr_aload_n X dX7_matchingNothing_5 0 rfl rfl ?_
    refine gf7_0 X (gk_X7o hk) wf_RX7_9 dX7_matchingNothing_6 ?_
    refine gr_icmp_ge 47 X dX7_matchingNothing_9 (by decide) (fun h1 => ?_) (fun h1 => ?_)
    · rw [if_pos h1] at hf
      refine gr_iload_n X dX7_matchingNothing_47 2 rfl rfl ?_
      exact gz_EIu hE hf rfl dX7_matchingNothing_48
    · rw [if_neg h1] at hf
      refine gr_iload_n X dX7_matchingNothing_12 2 rfl rfl ?_
      refine gr_aload_n X dX7_matchingNothing_13 0 rfl rfl ?_
      refine gf7_1 X (gk_X7o hk) wf_RX7_15 dX7_matchingNothing_14 ?_
      refine gr_iload_n X dX7_matchingNothing_17 3 rfl rfl ?_
      obtain ⟨h2, hf⟩ := gz_cke hf
      refine gr_iaload X (gk_X71 hk) (gz_inp h2) dX7_matchingNothing_18 ?_
      refine gr_iload_n X dX7_matchingNothing_19 1 rfl rfl ?_
      refine gr_icmp_ne 38 X dX7_matchingNothing_20 (by decide) (fun h3 => ?_) (fun h3 => ?_)
      · rw [if_pos h3] at hf
        refine gr_aload_n X dX7_matchingNothing_23 0 rfl rfl ?_
        refine gf7_6 X (gk_X7o hk) wf_RX7_31 dX7_matchingNothing_24 ?_
        refine gr_iload_n X dX7_matchingNothing_27 3 rfl rfl ?_
        obtain ⟨h4, hf⟩ := gz_cke hf
        refine gr_zaload X (gk_X76 hk) (gz_inp h4) dX7_matchingNothing_28 ?_
        refine gr_if_eq 38 X dX7_matchingNothing_29 (by decide) (fun h5 => ?_) (fun h5 => ?_)
        · rw [if_pos h5] at hf
          refine gr_iconst 0 X dX7_matchingNothing_38 (by decide) ?_
          refine gr_ior X dX7_matchingNothing_39 ?_
          obtain ⟨v6, ev6, hf⟩ := gz_lte hf
          refine gr_istore_n [(2, .int v6), (0, .ref (gx_ad x k)), (1, .int x1), (3, .int x3)] X dX7_matchingNothing_40 ev6 rfl (by decide) rfl ?_
          obtain ⟨v7, ev7, hf⟩ := gz_lte hf
          refine gr_iinc 1 [(3, .int v7), (2, .int v6), (0, .ref (gx_ad x k)), (1, .int x1)] X dX7_matchingNothing_41 3 rfl (by decide) ev7 (by decide) rfl ?_
          refine gr_goto 4 X dX7_matchingNothing_44 (by decide) ?_
          refine gr_sub (lv' := [(0, .ref (gx_ad x k)), (1, .int x1), (2, .int v6), (3, .int v7)]) [2, 3, 1, 0] rfl ?_
          exact ih _ _ _ _ hf
        · rw [if_neg h5] at hf
          refine gr_iconst 1 X dX7_matchingNothing_32 (by decide) ?_
          refine gr_iload_n X dX7_matchingNothing_33 3 rfl rfl ?_
          refine gr_ishl X dX7_matchingNothing_34 ?_
          refine gr_goto 39 X dX7_matchingNothing_35 (by decide) ?_
          refine gr_ior X dX7_matchingNothing_39 ?_
          obtain ⟨v8, ev8, hf⟩ := gz_lte hf
          refine gr_istore_n [(2, .int v8), (0, .ref (gx_ad x k)), (1, .int x1), (3, .int x3)] X dX7_matchingNothing_40 ev8 rfl (by decide) rfl ?_
          obtain ⟨v9, ev9, hf⟩ := gz_lte hf
          refine gr_iinc 1 [(3, .int v9), (2, .int v8), (0, .ref (gx_ad x k)), (1, .int x1)] X dX7_matchingNothing_41 3 rfl (by decide) ev9 (by decide) rfl ?_
          refine gr_goto 4 X dX7_matchingNothing_44 (by decide) ?_
          refine gr_sub (lv' := [(0, .ref (gx_ad x k)), (1, .int x1), (2, .int v8), (3, .int v9)]) [2, 3, 1, 0] rfl ?_
          exact ih _ _ _ _ hf
      · rw [if_neg h3] at hf
        refine gr_iconst 0 X dX7_matchingNothing_38 (by decide) ?_
        refine gr_ior X dX7_matchingNothing_39 ?_
        obtain ⟨v10, ev10, hf⟩ := gz_lte hf
        refine gr_istore_n [(2, .int v10), (0, .ref (gx_ad x k)), (1, .int x1), (3, .int x3)] X dX7_matchingNothing_40 ev10 rfl (by decide) rfl ?_
        obtain ⟨v11, ev11, hf⟩ := gz_lte hf
        refine gr_iinc 1 [(3, .int v11), (2, .int v10), (0, .ref (gx_ad x k)), (1, .int x1)] X dX7_matchingNothing_41 3 rfl (by decide) ev11 (by decide) rfl ?_
        refine gr_goto 4 X dX7_matchingNothing_44 (by decide) ?_
        refine gr_sub (lv' := [(0, .ref (gx_ad x k)), (1, .int x1), (2, .int v10), (3, .int v11)]) [2, 3, 1, 0] rfl ?_
        exact ih _ _ _ _ hf

def f7_matchingNothing (k : Nat) (a0 : Int32) (M0 : gz_M) : Option (Int32 × gz_M) := f7_matchingNothing_4 k gz_FU a0 0 0 M0
set_option maxRecDepth 100000 in
theorem c7_matchingNothing {pf : Nat → Bool} {l : Launch} {r : Int32} {M0 M' : gz_M} {k : Nat} {a0 : Int32} (hk : gz_IsX7 pf k) (hf : f7_matchingNothing k a0 M0 = some (r, M')) : gz_CI l gz_cfC yX7_matchingNothing cX7_matchingNothing 4 1 .int (fun ad => [.ref (ad k), .int a0]) pf M0 r M' := by
  refine gz_ofI (by decide +kernel) (fun _ => Nat.le_of_ble_eq_true rfl) (fun x X hc hE => ?_)
  show gz_At x 0 [(0, .ref (gx_ad x k)), (1, .int a0)] [] M0
  unfold f7_matchingNothing at hf
  refine gr_iconst 0 X dX7_matchingNothing_0 (by decide) ?_
  refine gr_istore_n [(2, .int 0), (0, .ref (gx_ad x k)), (1, .int a0)] X dX7_matchingNothing_1 rfl rfl (by decide) rfl ?_
  refine gr_iconst 0 X dX7_matchingNothing_2 (by decide) ?_
  refine gr_istore_n [(3, .int 0), (2, .int 0), (0, .ref (gx_ad x k)), (1, .int a0)] X dX7_matchingNothing_3 rfl rfl (by decide) rfl ?_
  refine gr_sub (lv' := [(0, .ref (gx_ad x k)), (1, .int a0), (2, .int 0), (3, .int 0)]) [2, 3, 1, 0] rfl ?_
  exact b7_matchingNothing_4 X hc hE hk _ _ _ _ _ hf

def f7_lettersOfAll_4 (k : Nat) : Nat → Int32 → Int32 → gz_M → Option (Int32 × gz_M)
  | 0, _, _, _ => none
  | n + 1, x1, x2, M0 => if (M0.1 k 0) ≤ x2 then (some (x1, M0)) else (gz_ck (gz_inb x2 8) <| gz_lt (x1 + (M0.1 (k + 2) x2.toNatClampNeg)) fun v3 => gz_lt (x2 + 1) fun v4 => f7_lettersOfAll_4 k n v3 v4 M0)
theorem b7_lettersOfAll_4 {x : gz_X} {pf : Nat → Bool} {l : Launch} {r : Int32} {M' : gz_M} (X : gz_Ok x cX7_lettersOfAll RX7 3 1 gz_cfC pf l) (hc : gx_cells x ≤ (gx_R x).cells ∧ gx_slots x ≤ (gx_R x).slots) (hE : gz_EI x cX7_lettersOfAll .int r M') {k : Nat} (hk : gz_IsX7 pf k) : ∀ (n : Nat) (x1 : Int32) (x2 : Int32) (M0 : gz_M), f7_lettersOfAll_4 k n x1 x2 M0 = some (r, M') → gz_At x 4 [(0, .ref (gx_ad x k)), (1, .int x1), (2, .int x2)] [] M0 := by
  intro n
  induction n with
  | zero =>
    intro x1 x2 M0  hf
    rw [f7_lettersOfAll_4] at hf
    cases hf
  | succ n ih =>
    intro x1 x2 M0  hf
    rw [f7_lettersOfAll_4] at hf
    refine gr_iload_n X dX7_lettersOfAll_4 2 rfl rfl ?_
    refine gr_aload_n X dX7_lettersOfAll_5 0 rfl rfl ?_
    refine gf7_0 X (gk_X7o hk) wf_RX7_9 dX7_lettersOfAll_6 ?_
    refine gr_icmp_ge 27 X dX7_lettersOfAll_9 (by decide) (fun h1 => ?_) (fun h1 => ?_)
    · rw [if_pos h1] at hf
      refine gr_iload_n X dX7_lettersOfAll_27 1 rfl rfl ?_
      exact gz_EIu hE hf rfl dX7_lettersOfAll_28
    · rw [if_neg h1] at hf
      refine gr_iload_n X dX7_lettersOfAll_12 1 rfl rfl ?_
      refine gr_aload_n X dX7_lettersOfAll_13 0 rfl rfl ?_
      refine gf7_2 X (gk_X7o hk) wf_RX7_19 dX7_lettersOfAll_14 ?_
      refine gr_iload_n X dX7_lettersOfAll_17 2 rfl rfl ?_
      obtain ⟨h2, hf⟩ := gz_cke hf
      refine gr_iaload X (gk_X72 hk) (gz_inp h2) dX7_lettersOfAll_18 ?_
      refine gr_iadd X dX7_lettersOfAll_19 ?_
      obtain ⟨v3, ev3, hf⟩ := gz_lte hf
      refine gr_istore_n [(1, .int v3), (0, .ref (gx_ad x k)), (2, .int x2)] X dX7_lettersOfAll_20 ev3 rfl (by decide) rfl ?_
      obtain ⟨v4, ev4, hf⟩ := gz_lte hf
      refine gr_iinc 1 [(2, .int v4), (1, .int v3), (0, .ref (gx_ad x k))] X dX7_lettersOfAll_21 2 rfl (by decide) ev4 (by decide) rfl ?_
      refine gr_goto 4 X dX7_lettersOfAll_24 (by decide) ?_
      refine gr_sub (lv' := [(0, .ref (gx_ad x k)), (1, .int v3), (2, .int v4)]) [2, 1, 0] rfl ?_
      exact ih _ _ _ hf

def f7_lettersOfAll (k : Nat) (M0 : gz_M) : Option (Int32 × gz_M) := f7_lettersOfAll_4 k gz_FU 0 0 M0
set_option maxRecDepth 100000 in
theorem c7_lettersOfAll {pf : Nat → Bool} {l : Launch} {r : Int32} {M0 M' : gz_M} {k : Nat} (hk : gz_IsX7 pf k) (hf : f7_lettersOfAll k M0 = some (r, M')) : gz_CI l gz_cfC yX7_lettersOfAll cX7_lettersOfAll 3 1 .int (fun ad => [.ref (ad k)]) pf M0 r M' := by
  refine gz_ofI (by decide +kernel) (fun _ => Nat.le_of_ble_eq_true rfl) (fun x X hc hE => ?_)
  show gz_At x 0 [(0, .ref (gx_ad x k))] [] M0
  unfold f7_lettersOfAll at hf
  refine gr_iconst 0 X dX7_lettersOfAll_0 (by decide) ?_
  refine gr_istore_n [(1, .int 0), (0, .ref (gx_ad x k))] X dX7_lettersOfAll_1 rfl rfl (by decide) rfl ?_
  refine gr_iconst 0 X dX7_lettersOfAll_2 (by decide) ?_
  refine gr_istore_n [(2, .int 0), (1, .int 0), (0, .ref (gx_ad x k))] X dX7_lettersOfAll_3 rfl rfl (by decide) rfl ?_
  refine gr_sub (lv' := [(0, .ref (gx_ad x k)), (1, .int 0), (2, .int 0)]) [2, 1, 0] rfl ?_
  exact b7_lettersOfAll_4 X hc hE hk _ _ _ _ hf

def f7_modesWithRules_4 (k : Nat) : Nat → Int32 → Int32 → gz_M → Option (Int32 × gz_M)
  | 0, _, _, _ => none
  | n + 1, x1, x2, M0 => if (M0.1 k 0) ≤ x2 then (some (x1, M0)) else (gz_ck (gz_inb x2 8) <| gz_lt (x1 ||| (gz_shl 1 (M0.1 (k + 1) x2.toNatClampNeg))) fun v3 => gz_lt (x2 + 1) fun v4 => f7_modesWithRules_4 k n v3 v4 M0)
theorem b7_modesWithRules_4 {x : gz_X} {pf : Nat → Bool} {l : Launch} {r : Int32} {M' : gz_M} (X : gz_Ok x cX7_modesWithRules RX7 3 1 gz_cfC pf l) (hc : gx_cells x ≤ (gx_R x).cells ∧ gx_slots x ≤ (gx_R x).slots) (hE : gz_EI x cX7_modesWithRules .int r M') {k : Nat} (hk : gz_IsX7 pf k) : ∀ (n : Nat) (x1 : Int32) (x2 : Int32) (M0 : gz_M), f7_modesWithRules_4 k n x1 x2 M0 = some (r, M') → gz_At x 4 [(0, .ref (gx_ad x k)), (1, .int x1), (2, .int x2)] [] M0 := by
  intro n
  induction n with
  | zero =>
    intro x1 x2 M0  hf
    rw [f7_modesWithRules_4] at hf
    cases hf
  | succ n ih =>
    intro x1 x2 M0  hf
    rw [f7_modesWithRules_4] at hf
    refine gr_iload_n X dX7_modesWithRules_4 2 rfl rfl ?_
    refine gr_aload_n X dX7_modesWithRules_5 0 rfl rfl ?_
    refine gf7_0 X (gk_X7o hk) wf_RX7_9 dX7_modesWithRules_6 ?_
    refine gr_icmp_ge 29 X dX7_modesWithRules_9 (by decide) (fun h1 => ?_) (fun h1 => ?_)
    · rw [if_pos h1] at hf
      refine gr_iload_n X dX7_modesWithRules_29 1 rfl rfl ?_
      exact gz_EIu hE hf rfl dX7_modesWithRules_30
    · rw [if_neg h1] at hf
      refine gr_iload_n X dX7_modesWithRules_12 1 rfl rfl ?_
      refine gr_iconst 1 X dX7_modesWithRules_13 (by decide) ?_
      refine gr_aload_n X dX7_modesWithRules_14 0 rfl rfl ?_
      refine gf7_1 X (gk_X7o hk) wf_RX7_15 dX7_modesWithRules_15 ?_
      refine gr_iload_n X dX7_modesWithRules_18 2 rfl rfl ?_
      obtain ⟨h2, hf⟩ := gz_cke hf
      refine gr_iaload X (gk_X71 hk) (gz_inp h2) dX7_modesWithRules_19 ?_
      refine gr_ishl X dX7_modesWithRules_20 ?_
      refine gr_ior X dX7_modesWithRules_21 ?_
      obtain ⟨v3, ev3, hf⟩ := gz_lte hf
      refine gr_istore_n [(1, .int v3), (0, .ref (gx_ad x k)), (2, .int x2)] X dX7_modesWithRules_22 ev3 rfl (by decide) rfl ?_
      obtain ⟨v4, ev4, hf⟩ := gz_lte hf
      refine gr_iinc 1 [(2, .int v4), (1, .int v3), (0, .ref (gx_ad x k))] X dX7_modesWithRules_23 2 rfl (by decide) ev4 (by decide) rfl ?_
      refine gr_goto 4 X dX7_modesWithRules_26 (by decide) ?_
      refine gr_sub (lv' := [(0, .ref (gx_ad x k)), (1, .int v3), (2, .int v4)]) [2, 1, 0] rfl ?_
      exact ih _ _ _ hf

def f7_modesWithRules (k : Nat) (M0 : gz_M) : Option (Int32 × gz_M) := f7_modesWithRules_4 k gz_FU 0 0 M0
set_option maxRecDepth 100000 in
theorem c7_modesWithRules {pf : Nat → Bool} {l : Launch} {r : Int32} {M0 M' : gz_M} {k : Nat} (hk : gz_IsX7 pf k) (hf : f7_modesWithRules k M0 = some (r, M')) : gz_CI l gz_cfC yX7_modesWithRules cX7_modesWithRules 3 1 .int (fun ad => [.ref (ad k)]) pf M0 r M' := by
  refine gz_ofI (by decide +kernel) (fun _ => Nat.le_of_ble_eq_true rfl) (fun x X hc hE => ?_)
  show gz_At x 0 [(0, .ref (gx_ad x k))] [] M0
  unfold f7_modesWithRules at hf
  refine gr_iconst 0 X dX7_modesWithRules_0 (by decide) ?_
  refine gr_istore_n [(1, .int 0), (0, .ref (gx_ad x k))] X dX7_modesWithRules_1 rfl rfl (by decide) rfl ?_
  refine gr_iconst 0 X dX7_modesWithRules_2 (by decide) ?_
  refine gr_istore_n [(2, .int 0), (1, .int 0), (0, .ref (gx_ad x k))] X dX7_modesWithRules_3 rfl rfl (by decide) rfl ?_
  refine gr_sub (lv' := [(0, .ref (gx_ad x k)), (1, .int 0), (2, .int 0)]) [2, 1, 0] rfl ?_
  exact b7_modesWithRules_4 X hc hE hk _ _ _ _ hf

def f0_copy (k : Nat) (k0 : Nat) (M0 : gz_M) : Option (gz_M) := gz_lt (gz_cp M0 (k0 + 1) (k + 1) 0 0 80) fun M1 => gz_lt (gz_w M1 k 1 (M1.1 k0 1)) fun M2 => gz_bd (f5_copy (k + 2) (k0 + 2) M2) fun M3 => some M3
set_option maxRecDepth 100000 in
theorem c0_copy {pf : Nat → Bool} {l : Launch} {M0 M' : gz_M} {k : Nat} {k0 : Nat} (hk : gz_IsX0 pf k) (hk0 : gz_IsX0 pf k0) (hf : f0_copy k k0 M0 = some M') : gz_CV l gz_cfC yX0_copy cX0_copy 2 2 (fun ad => [.ref (ad k), .ref (ad k0)]) pf M0 M' := by
  refine gz_ofV (by decide +kernel) (fun _ => Nat.le_of_ble_eq_true rfl) (fun x X hc hE => ?_)
  show gz_At x 0 [(0, .ref (gx_ad x k)), (1, .ref (gx_ad x k0))] [] M0
  unfold f0_copy at hf
  refine gr_aload_n X dX0_copy_0 1 rfl rfl ?_
  refine gf0_0 X (gk_X0o hk0) wf_RX0_9 dX0_copy_1 ?_
  refine gr_iconst 0 X dX0_copy_4 (by decide) ?_
  refine gr_aload_n X dX0_copy_5 0 rfl rfl ?_
  refine gf0_0 X (gk_X0o hk) wf_RX0_9 dX0_copy_6 ?_
  refine gr_iconst 0 X dX0_copy_9 (by decide) ?_
  refine gr_bipush 80 X dX0_copy_10 (by decide) ?_
  obtain ⟨M1, eM1, hf⟩ := gz_lte hf
  refine gr_acopy X (by decide) (gk_X01 hk0) (gk_X01 hk) wl_RX0_26 (sp := 0) (dp := 0) (n := 80) rfl rfl rfl (by decide) (by decide) (by decide) (by decide) (by decide) (Nat.le_of_ble_eq_true rfl) eM1 dX0_copy_12 ?_
  refine gr_aload_n X dX0_copy_15 0 rfl rfl ?_
  refine gr_aload_n X dX0_copy_16 1 rfl rfl ?_
  refine gf0_1 X (gk_X0o hk0) wf_RX0_15 dX0_copy_17 ?_
  obtain ⟨M2, eM2, hf⟩ := gz_lte hf
  refine gp0_1 X (gk_X0o hk) wf_RX0_15 eM2 dX0_copy_20 ?_
  refine gr_aload_n X dX0_copy_23 0 rfl rfl ?_
  refine gf0_2 X (gk_X0o hk) wf_RX0_22 dX0_copy_24 ?_
  refine gr_aload_n X dX0_copy_27 1 rfl rfl ?_
  refine gf0_2 X (gk_X0o hk0) wf_RX0_22 dX0_copy_28 ?_
  obtain ⟨M3, q4, hf⟩ := gz_bde hf
  refine gr_callV (asF := fun ad => [.ref (ad (k + 2)), .ref (ad (k0 + 2))]) [.ref (gx_ad x (k0 + 2))] X (c5_copy (gi_X0line hk) (gi_X0line hk0) q4) rfl wm_RX0_32 rfl (X.kd (gk_X5o (gi_X0line hk))).1 ((X.kd (gk_X5o (gi_X0line hk))).2 _ _ _ _) rfl (by decide) (by decide) rfl (Nat.le_of_ble_eq_true rfl) hc dX0_copy_31 ?_
  exact gz_EVu hE hf dX0_copy_34

def f0_takeRules (k : Nat) (M0 : gz_M) : Option (gz_M) := gz_lt (gz_cp M0 2 (k + 1) 0 0 80) fun M1 => gz_lt (gz_w M1 k 1 (M1.1 1 1)) fun M2 => some M2
set_option maxRecDepth 100000 in
theorem c0_takeRules {pf : Nat → Bool} {l : Launch} {M0 M' : gz_M} {k : Nat} (hk : gz_IsX0 pf k) (hf : f0_takeRules k M0 = some M') : gz_CV l gz_cfC yX0_takeRules cX0_takeRules 2 1 (fun ad => [.ref (ad k), .ref (ad 1)]) pf M0 M' := by
  refine gz_ofV (by decide +kernel) (fun _ => Nat.le_of_ble_eq_true rfl) (fun x X hc hE => ?_)
  show gz_At x 0 [(0, .ref (gx_ad x k)), (1, .ref (gx_ad x 1))] [] M0
  unfold f0_takeRules at hf
  refine gr_aload_n X dX0_takeRules_0 1 rfl rfl ?_
  refine gf10_0 X wf_RX0_36 dX0_takeRules_1 ?_
  refine gr_iconst 0 X dX0_takeRules_4 (by decide) ?_
  refine gr_aload_n X dX0_takeRules_5 0 rfl rfl ?_
  refine gf0_0 X (gk_X0o hk) wf_RX0_9 dX0_takeRules_6 ?_
  refine gr_iconst 0 X dX0_takeRules_9 (by decide) ?_
  refine gr_bipush 80 X dX0_takeRules_10 (by decide) ?_
  obtain ⟨M1, eM1, hf⟩ := gz_lte hf
  refine gr_acopy X (by decide) gk_C2 (gk_X01 hk) wl_RX0_26 (sp := 0) (dp := 0) (n := 80) rfl rfl rfl (by decide) (by decide) (by decide) (by decide) (by decide) (Nat.le_of_ble_eq_true rfl) eM1 dX0_takeRules_12 ?_
  refine gr_aload_n X dX0_takeRules_15 0 rfl rfl ?_
  refine gr_aload_n X dX0_takeRules_16 1 rfl rfl ?_
  refine gf10_1 X wf_RX0_41 dX0_takeRules_17 ?_
  obtain ⟨M2, eM2, hf⟩ := gz_lte hf
  refine gp0_1 X (gk_X0o hk) wf_RX0_15 eM2 dX0_takeRules_20 ?_
  exact gz_EVu hE hf dX0_takeRules_23

