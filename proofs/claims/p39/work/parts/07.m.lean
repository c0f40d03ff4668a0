section
theorem wk_RJ6_265 : Cond.constant RJ6 265 1431655765 ∈ gz_TB := gz_in 859 (by decide +kernel) rfl
theorem wk_RJ6_266 : Cond.constant RJ6 266 858993459 ∈ gz_TB := gz_in 860 (by decide +kernel) rfl
theorem wk_RJ6_267 : Cond.constant RJ6 267 252645135 ∈ gz_TB := gz_in 861 (by decide +kernel) rfl
theorem wf_RX10_15 : gz_FL RX10 15 RX10 "length" "I" := Or.inl (gz_in 122 (by decide +kernel) rfl)
theorem wf_RX10_9 : gz_FL RX10 9 RX10 "signs" "[I" := Or.inl (gz_in 120 (by decide +kernel) rfl)
theorem wf_RX5_15 : gz_FL RX5 15 RX5 "length" "I" := Or.inl (gz_in 184 (by decide +kernel) rfl)
theorem wf_RX5_9 : gz_FL RX5 9 RX5 "signs" "[I" := Or.inl (gz_in 183 (by decide +kernel) rfl)
theorem wl_RX5_19 : Cond.methodLink RX5 19 arraycopyName ∈ gz_TB := gz_in 562 (by decide +kernel) rfl
theorem wf_RX5_25 : gz_FL RX5 25 RX10 "length" "I" := Or.inr ⟨"LongestTokens", gz_inN 126 (by decide +kernel) rfl⟩
theorem wc_yX10_get : Cond.instanceMethod yX10_get ∈ gz_TB ∧ Cond.selects RX10 yX10_get yX10_get ∈ gz_TB ∧ Cond.initialized yX10_get.cls ∈ gz_TB ∧ Cond.code yX10_get cX10_get 2 (some (.int)) ∈ gz_TB ∧ (yX10_get.cls ≠ "java/lang/invoke/MethodHandle" ∧ yX10_get.cls ≠ "java/lang/invoke/VarHandle" ∧ (parseMethodDescriptor yX10_get.desc).map (fun d => d.parameters.length) = some 1) := ⟨gz_in 504 (by decide +kernel) rfl, gz_in 505 (by decide +kernel) rfl, gz_in 86 (by decide +kernel) rfl, gz_in 506 (by decide +kernel) rfl, by decide +kernel⟩
theorem wm_RX5_28 : gz_WV RX5 28 RX10 yX10_get cX10_get 2 1 (some (.int)) := ⟨Or.inl (gz_in 695 (by decide +kernel) rfl), wc_yX10_get⟩
theorem wc_yX5_insert : Cond.instanceMethod yX5_insert ∈ gz_TB ∧ Cond.selects RX5 yX5_insert yX5_insert ∈ gz_TB ∧ Cond.initialized yX5_insert.cls ∈ gz_TB ∧ Cond.code yX5_insert cX5_insert 4 none ∈ gz_TB ∧ (yX5_insert.cls ≠ "java/lang/invoke/MethodHandle" ∧ yX5_insert.cls ≠ "java/lang/invoke/VarHandle" ∧ (parseMethodDescriptor yX5_insert.desc).map (fun d => d.parameters.length) = some 2) := ⟨gz_in 697 (by decide +kernel) rfl, gz_in 698 (by decide +kernel) rfl, gz_in 90 (by decide +kernel) rfl, gz_in 699 (by decide +kernel) rfl, by decide +kernel⟩
theorem wm_RX5_32 : gz_WV RX5 32 RX5 yX5_insert cX5_insert 4 2 none := ⟨Or.inl (gz_in 696 (by decide +kernel) rfl), wc_yX5_insert⟩
theorem wc_yX5_has : Cond.instanceMethod yX5_has ∈ gz_TB ∧ Cond.selects RX5 yX5_has yX5_has ∈ gz_TB ∧ Cond.initialized yX5_has.cls ∈ gz_TB ∧ Cond.code yX5_has cX5_has 2 (some (.boolean)) ∈ gz_TB ∧ (yX5_has.cls ≠ "java/lang/invoke/MethodHandle" ∧ yX5_has.cls ≠ "java/lang/invoke/VarHandle" ∧ (parseMethodDescriptor yX5_has.desc).map (fun d => d.parameters.length) = some 1) := ⟨gz_in 759 (by decide +kernel) rfl, gz_in 760 (by decide +kernel) rfl, gz_in 90 (by decide +kernel) rfl, gz_in 761 (by decide +kernel) rfl, by decide +kernel⟩
theorem wm_RX5_36 : gz_WV RX5 36 RX5 yX5_has cX5_has 2 1 (some (.boolean)) := ⟨Or.inl (gz_in 957 (by decide +kernel) rfl), wc_yX5_has⟩
theorem wc_yX5_get : Cond.instanceMethod yX5_get ∈ gz_TB ∧ Cond.selects RX5 yX5_get yX5_get ∈ gz_TB ∧ Cond.initialized yX5_get.cls ∈ gz_TB ∧ Cond.code yX5_get cX5_get 2 (some (.int)) ∈ gz_TB ∧ (yX5_get.cls ≠ "java/lang/invoke/MethodHandle" ∧ yX5_get.cls ≠ "java/lang/invoke/VarHandle" ∧ (parseMethodDescriptor yX5_get.desc).map (fun d => d.parameters.length) = some 1) := ⟨gz_in 654 (by decide +kernel) rfl, gz_in 655 (by decide +kernel) rfl, gz_in 90 (by decide +kernel) rfl, gz_in 656 (by decide +kernel) rfl, by decide +kernel⟩
theorem wm_RX5_40 : gz_WV RX5 40 RX5 yX5_get cX5_get 2 1 (some (.int)) := ⟨Or.inl (gz_in 958 (by decide +kernel) rfl), wc_yX5_get⟩
theorem wc_yX5_refusal : Cond.instanceMethod yX5_refusal ∈ gz_TB ∧ Cond.selects RX5 yX5_refusal yX5_refusal ∈ gz_TB ∧ Cond.initialized yX5_refusal.cls ∈ gz_TB ∧ Cond.code yX5_refusal cX5_refusal 6 (some (.int)) ∈ gz_TB ∧ (yX5_refusal.cls ≠ "java/lang/invoke/MethodHandle" ∧ yX5_refusal.cls ≠ "java/lang/invoke/VarHandle" ∧ (parseMethodDescriptor yX5_refusal.desc).map (fun d => d.parameters.length) = some 3) := ⟨gz_in 954 (by decide +kernel) rfl, gz_in 955 (by decide +kernel) rfl, gz_in 90 (by decide +kernel) rfl, gz_in 956 (by decide +kernel) rfl, by decide +kernel⟩
theorem wm_RX5_41 : gz_WV RX5 41 RX5 yX5_refusal cX5_refusal 6 3 (some (.int)) := ⟨Or.inl (gz_in 963 (by decide +kernel) rfl), wc_yX5_refusal⟩
theorem wc_yX5_put : Cond.instanceMethod yX5_put ∈ gz_TB ∧ Cond.selects RX5 yX5_put yX5_put ∈ gz_TB ∧ Cond.initialized yX5_put.cls ∈ gz_TB ∧ Cond.code yX5_put cX5_put 3 none ∈ gz_TB ∧ (yX5_put.cls ≠ "java/lang/invoke/MethodHandle" ∧ yX5_put.cls ≠ "java/lang/invoke/VarHandle" ∧ (parseMethodDescriptor yX5_put.desc).map (fun d => d.parameters.length) = some 2) := ⟨gz_in 965 (by decide +kernel) rfl, gz_in 966 (by decide +kernel) rfl, gz_in 90 (by decide +kernel) rfl, gz_in 967 (by decide +kernel) rfl, by decide +kernel⟩
theorem wm_RX5_45 : gz_WV RX5 45 RX5 yX5_put cX5_put 3 2 none := ⟨Or.inl (gz_in 964 (by decide +kernel) rfl), wc_yX5_put⟩
theorem wc_yX5_remove : Cond.instanceMethod yX5_remove ∈ gz_TB ∧ Cond.selects RX5 yX5_remove yX5_remove ∈ gz_TB ∧ Cond.initialized yX5_remove.cls ∈ gz_TB ∧ Cond.code yX5_remove cX5_remove 3 none ∈ gz_TB ∧ (yX5_remove.cls ≠ "java/lang/invoke/MethodHandle" ∧ yX5_remove.cls ≠ "java/lang/invoke/VarHandle" ∧ (parseMethodDescriptor yX5_remove.desc).map (fun d => d.parameters.length) = some 1) := ⟨gz_in 970 (by decide +kernel) rfl, gz_in 28 (by decide +kernel) rfl, gz_in 90 (by decide +kernel) rfl, gz_in 971 (by decide +kernel) rfl, by decide +kernel⟩
theorem wm_RX5_48 : gz_WV RX5 48 RX5 yX5_remove cX5_remove 3 1 none := ⟨Or.inl (gz_in 968 (by decide +kernel) rfl), wc_yX5_remove⟩
theorem wf_RX3_15 : gz_FL RX3 15 RX3 "ruleNumber" "I" := Or.inl (gz_in 140 (by decide +kernel) rfl)
theorem wc_yX3_isSign : Cond.static yX3_isSign ∈ gz_TB ∧ Cond.initialized yX3_isSign.cls ∈ gz_TB ∧ Cond.code yX3_isSign cX3_isSign 1 (some (.boolean)) ∈ gz_TB ∧ (yX3_isSign.cls ≠ "java/lang/invoke/MethodHandle" ∧ yX3_isSign.cls ≠ "java/lang/invoke/VarHandle" ∧ (parseMethodDescriptor yX3_isSign.desc).map (fun d => d.parameters.length) = some 1) := ⟨gz_in 522 (by decide +kernel) rfl, gz_in 87 (by decide +kernel) rfl, gz_in 523 (by decide +kernel) rfl, by decide +kernel⟩
theorem wm_RX3_35 : gz_WS RX3 35 yX3_isSign cX3_isSign 1 1 (some (.boolean)) := ⟨Or.inl (gz_in 521 (by decide +kernel) rfl), wc_yX3_isSign⟩
theorem wc_yX3_isLetter : Cond.static yX3_isLetter ∈ gz_TB ∧ Cond.initialized yX3_isLetter.cls ∈ gz_TB ∧ Cond.code yX3_isLetter cX3_isLetter 1 (some (.boolean)) ∈ gz_TB ∧ (yX3_isLetter.cls ≠ "java/lang/invoke/MethodHandle" ∧ yX3_isLetter.cls ≠ "java/lang/invoke/VarHandle" ∧ (parseMethodDescriptor yX3_isLetter.desc).map (fun d => d.parameters.length) = some 1) := ⟨gz_in 519 (by decide +kernel) rfl, gz_in 87 (by decide +kernel) rfl, gz_in 520 (by decide +kernel) rfl, by decide +kernel⟩
theorem wm_RX3_58 : gz_WS RX3 58 yX3_isLetter cX3_isLetter 1 1 (some (.boolean)) := ⟨Or.inl (gz_in 518 (by decide +kernel) rfl), wc_yX3_isLetter⟩
theorem wf_RX3_9 : gz_FL RX3 9 RX3 "open" "I" := Or.inl (gz_in 139 (by decide +kernel) rfl)
theorem wc_yX3_dueInNextRule : Cond.instanceMethod yX3_dueInNextRule ∈ gz_TB ∧ Cond.selects RX3 yX3_dueInNextRule yX3_dueInNextRule ∈ gz_TB ∧ Cond.initialized yX3_dueInNextRule.cls ∈ gz_TB ∧ Cond.code yX3_dueInNextRule cX3_dueInNextRule 1 (some (.int)) ∈ gz_TB ∧ (yX3_dueInNextRule.cls ≠ "java/lang/invoke/MethodHandle" ∧ yX3_dueInNextRule.cls ≠ "java/lang/invoke/VarHandle" ∧ (parseMethodDescriptor yX3_dueInNextRule.desc).map (fun d => d.parameters.length) = some 0) := ⟨gz_in 530 (by decide +kernel) rfl, gz_in 3 (by decide +kernel) rfl, gz_in 87 (by decide +kernel) rfl, gz_in 531 (by decide +kernel) rfl, by decide +kernel⟩
theorem wm_RX3_54 : gz_WV RX3 54 RX3 yX3_dueInNextRule cX3_dueInNextRule 1 0 (some (.int)) := ⟨Or.inl (gz_in 528 (by decide +kernel) rfl), wc_yX3_dueInNextRule⟩
theorem wc_yX3_dueInPart : Cond.instanceMethod yX3_dueInPart ∈ gz_TB ∧ Cond.selects RX3 yX3_dueInPart yX3_dueInPart ∈ gz_TB ∧ Cond.initialized yX3_dueInPart.cls ∈ gz_TB ∧ Cond.code yX3_dueInPart cX3_dueInPart 2 (some (.int)) ∈ gz_TB ∧ (yX3_dueInPart.cls ≠ "java/lang/invoke/MethodHandle" ∧ yX3_dueInPart.cls ≠ "java/lang/invoke/VarHandle" ∧ (parseMethodDescriptor yX3_dueInPart.desc).map (fun d => d.parameters.length) = some 1) := ⟨gz_in 516 (by decide +kernel) rfl, gz_in 1 (by decide +kernel) rfl, gz_in 87 (by decide +kernel) rfl, gz_in 517 (by decide +kernel) rfl, by decide +kernel⟩
theorem wm_RX3_48 : gz_WV RX3 48 RX3 yX3_dueInPart cX3_dueInPart 2 1 (some (.int)) := ⟨Or.inl (gz_in 514 (by decide +kernel) rfl), wc_yX3_dueInPart⟩
theorem wc_yX3_isModeDigit : Cond.static yX3_isModeDigit ∈ gz_TB ∧ Cond.initialized yX3_isModeDigit.cls ∈ gz_TB ∧ Cond.code yX3_isModeDigit cX3_isModeDigit 1 (some (.boolean)) ∈ gz_TB ∧ (yX3_isModeDigit.cls ≠ "java/lang/invoke/MethodHandle" ∧ yX3_isModeDigit.cls ≠ "java/lang/invoke/VarHandle" ∧ (parseMethodDescriptor yX3_isModeDigit.desc).map (fun d => d.parameters.length) = some 1) := ⟨gz_in 512 (by decide +kernel) rfl, gz_in 87 (by decide +kernel) rfl, gz_in 513 (by decide +kernel) rfl, by decide +kernel⟩
theorem wm_RX3_45 : gz_WS RX3 45 yX3_isModeDigit cX3_isModeDigit 1 1 (some (.boolean)) := ⟨Or.inl (gz_in 511 (by decide +kernel) rfl), wc_yX3_isModeDigit⟩
theorem wc_yX3_dueBehindPart : Cond.instanceMethod yX3_dueBehindPart ∈ gz_TB ∧ Cond.selects RX3 yX3_dueBehindPart yX3_dueBehindPart ∈ gz_TB ∧ Cond.initialized yX3_dueBehindPart.cls ∈ gz_TB ∧ Cond.code yX3_dueBehindPart cX3_dueBehindPart 2 (some (.int)) ∈ gz_TB ∧ (yX3_dueBehindPart.cls ≠ "java/lang/invoke/MethodHandle" ∧ yX3_dueBehindPart.cls ≠ "java/lang/invoke/VarHandle" ∧ (parseMethodDescriptor yX3_dueBehindPart.desc).map (fun d => d.parameters.length) = some 1) := ⟨gz_in 526 (by decide +kernel) rfl, gz_in 2 (by decide +kernel) rfl, gz_in 87 (by decide +kernel) rfl, gz_in 527 (by decide +kernel) rfl, by decide +kernel⟩
theorem wm_RX3_51 : gz_WV RX3 51 RX3 yX3_dueBehindPart cX3_dueBehindPart 2 1 (some (.int)) := ⟨Or.inl (gz_in 524 (by decide +kernel) rfl), wc_yX3_dueBehindPart⟩
theorem wf_RX3_18 : gz_FL RX3 18 RX10 "length" "I" := Or.inr ⟨"LongestTokens", gz_inN 124 (by decide +kernel) rfl⟩
theorem wm_RX3_23 : gz_WV RX3 23 RX10 yX10_get cX10_get 2 1 (some (.int)) := ⟨Or.inl (gz_in 503 (by decide +kernel) rfl), wc_yX10_get⟩
theorem wc_yX3_dueBehind : Cond.instanceMethod yX3_dueBehind ∈ gz_TB ∧ Cond.selects RX3 yX3_dueBehind yX3_dueBehind ∈ gz_TB ∧ Cond.initialized yX3_dueBehind.cls ∈ gz_TB ∧ Cond.code yX3_dueBehind cX3_dueBehind 3 (some (.int)) ∈ gz_TB ∧ (yX3_dueBehind.cls ≠ "java/lang/invoke/MethodHandle" ∧ yX3_dueBehind.cls ≠ "java/lang/invoke/VarHandle" ∧ (parseMethodDescriptor yX3_dueBehind.desc).map (fun d => d.parameters.length) = some 2) := ⟨gz_in 509 (by decide +kernel) rfl, gz_in 0 (by decide +kernel) rfl, gz_in 87 (by decide +kernel) rfl, gz_in 510 (by decide +kernel) rfl, by decide +kernel⟩
theorem wm_RX3_27 : gz_WV RX3 27 RX3 yX3_dueBehind cX3_dueBehind 3 2 (some (.int)) := ⟨Or.inl (gz_in 507 (by decide +kernel) rfl), wc_yX3_dueBehind⟩
theorem wc_yX3_lettersOfMode : Cond.static yX3_lettersOfMode ∈ gz_TB ∧ Cond.initialized yX3_lettersOfMode.cls ∈ gz_TB ∧ Cond.code yX3_lettersOfMode cX3_lettersOfMode 6 (some (.int)) ∈ gz_TB ∧ (yX3_lettersOfMode.cls ≠ "java/lang/invoke/MethodHandle" ∧ yX3_lettersOfMode.cls ≠ "java/lang/invoke/VarHandle" ∧ (parseMethodDescriptor yX3_lettersOfMode.desc).map (fun d => d.parameters.length) = some 2) := ⟨gz_in 537 (by decide +kernel) rfl, gz_in 87 (by decide +kernel) rfl, gz_in 538 (by decide +kernel) rfl, by decide +kernel⟩
theorem wm_RX3_31 : gz_WS RX3 31 yX3_lettersOfMode cX3_lettersOfMode 6 2 (some (.int)) := ⟨Or.inl (gz_in 536 (by decide +kernel) rfl), wc_yX3_lettersOfMode⟩
theorem wc_yX3_kindOfChange : Cond.static yX3_kindOfChange ∈ gz_TB ∧ Cond.initialized yX3_kindOfChange.cls ∈ gz_TB ∧ Cond.code yX3_kindOfChange cX3_kindOfChange 1 (some (.int)) ∈ gz_TB ∧ (yX3_kindOfChange.cls ≠ "java/lang/invoke/MethodHandle" ∧ yX3_kindOfChange.cls ≠ "java/lang/invoke/VarHandle" ∧ (parseMethodDescriptor yX3_kindOfChange.desc).map (fun d => d.parameters.length) = some 1) := ⟨gz_in 1007 (by decide +kernel) rfl, gz_in 87 (by decide +kernel) rfl, gz_in 1008 (by decide +kernel) rfl, by decide +kernel⟩
theorem wm_RX3_39 : gz_WS RX3 39 yX3_kindOfChange cX3_kindOfChange 1 1 (some (.int)) := ⟨Or.inl (gz_in 1006 (by decide +kernel) rfl), wc_yX3_kindOfChange⟩
theorem wc_yX3_isDigit : Cond.static yX3_isDigit ∈ gz_TB ∧ Cond.initialized yX3_isDigit.cls ∈ gz_TB ∧ Cond.code yX3_isDigit cX3_isDigit 1 (some (.boolean)) ∈ gz_TB ∧ (yX3_isDigit.cls ≠ "java/lang/invoke/MethodHandle" ∧ yX3_isDigit.cls ≠ "java/lang/invoke/VarHandle" ∧ (parseMethodDescriptor yX3_isDigit.desc).map (fun d => d.parameters.length) = some 1) := ⟨gz_in 1010 (by decide +kernel) rfl, gz_in 87 (by decide +kernel) rfl, gz_in 1011 (by decide +kernel) rfl, by decide +kernel⟩
theorem wm_RX3_42 : gz_WS RX3 42 yX3_isDigit cX3_isDigit 1 1 (some (.boolean)) := ⟨Or.inl (gz_in 1009 (by decide +kernel) rfl), wc_yX3_isDigit⟩
theorem wf_RX7_9 : gz_FL RX7 9 RX7 "total" "I" := Or.inl (gz_in 214 (by decide +kernel) rfl)
theorem wf_RX7_35 : gz_FL RX7 35 RX7 "used" "[I" := Or.inl (gz_in 238 (by decide +kernel) rfl)
theorem wf_RX7_38 : gz_FL RX7 38 RX7 "opening" "[I" := Or.inl (gz_in 240 (by decide +kernel) rfl)
theorem wf_RX7_43 : gz_FL RX7 43 RX7 "follow" "[[I" := Or.inl (gz_in 242 (by decide +kernel) rfl)
theorem wc_yJ7_fill_53178 : Cond.static yJ7_fill_53178 ∈ gz_TB ∧ Cond.initialized yJ7_fill_53178.cls ∈ gz_TB ∧ Cond.code yJ7_fill_53178 cJ7_fill_53178 4 none ∈ gz_TB ∧ (yJ7_fill_53178.cls ≠ "java/lang/invoke/MethodHandle" ∧ yJ7_fill_53178.cls ≠ "java/lang/invoke/VarHandle" ∧ (parseMethodDescriptor yJ7_fill_53178.desc).map (fun d => d.parameters.length) = some 2) := ⟨gz_in 580 (by decide +kernel) rfl, gz_in 100 (by decide +kernel) rfl, gz_in 581 (by decide +kernel) rfl, by decide +kernel⟩
theorem wm_RX7_49 : gz_WS RX7 49 yJ7_fill_53178 cJ7_fill_53178 4 2 none := ⟨Or.inl (gz_in 579 (by decide +kernel) rfl), wc_yJ7_fill_53178⟩
theorem wf_RX7_46 : gz_FL RX7 46 RX7 "takers" "[[I" := Or.inl (gz_in 244 (by decide +kernel) rfl)
theorem wc_yX11_isMode : Cond.static yX11_isMode ∈ gz_TB ∧ Cond.initialized yX11_isMode.cls ∈ gz_TB ∧ Cond.code yX11_isMode cX11_isMode 1 (some (.boolean)) ∈ gz_TB ∧ (yX11_isMode.cls ≠ "java/lang/invoke/MethodHandle" ∧ yX11_isMode.cls ≠ "java/lang/invoke/VarHandle" ∧ (parseMethodDescriptor yX11_isMode.desc).map (fun d => d.parameters.length) = some 1) := ⟨gz_in 587 (by decide +kernel) rfl, gz_in 85 (by decide +kernel) rfl, gz_in 588 (by decide +kernel) rfl, by decide +kernel⟩
theorem wm_RX7_55 : gz_WS RX7 55 yX11_isMode cX11_isMode 1 1 (some (.boolean)) := ⟨Or.inr ⟨"LongestTokens", gz_inN 652 (by decide +kernel) rfl⟩, wc_yX11_isMode⟩
theorem wc_yX7_takersOf : Cond.instanceMethod yX7_takersOf ∈ gz_TB ∧ Cond.selects RX7 yX7_takersOf yX7_takersOf ∈ gz_TB ∧ Cond.initialized yX7_takersOf.cls ∈ gz_TB ∧ Cond.code yX7_takersOf cX7_takersOf 3 (some (.int)) ∈ gz_TB ∧ (yX7_takersOf.cls ≠ "java/lang/invoke/MethodHandle" ∧ yX7_takersOf.cls ≠ "java/lang/invoke/VarHandle" ∧ (parseMethodDescriptor yX7_takersOf.desc).map (fun d => d.parameters.length) = some 2) := ⟨gz_in 658 (by decide +kernel) rfl, gz_in 659 (by decide +kernel) rfl, gz_in 91 (by decide +kernel) rfl, gz_in 660 (by decide +kernel) rfl, by decide +kernel⟩
theorem wm_RX7_59 : gz_WV RX7 59 RX7 yX7_takersOf cX7_takersOf 3 2 (some (.int)) := ⟨Or.inl (gz_in 834 (by decide +kernel) rfl), wc_yX7_takersOf⟩
theorem wc_yX7_atFirst : Cond.instanceMethod yX7_atFirst ∈ gz_TB ∧ Cond.selects RX7 yX7_atFirst yX7_atFirst ∈ gz_TB ∧ Cond.initialized yX7_atFirst.cls ∈ gz_TB ∧ Cond.code yX7_atFirst cX7_atFirst 2 (some (.int)) ∈ gz_TB ∧ (yX7_atFirst.cls ≠ "java/lang/invoke/MethodHandle" ∧ yX7_atFirst.cls ≠ "java/lang/invoke/VarHandle" ∧ (parseMethodDescriptor yX7_atFirst.desc).map (fun d => d.parameters.length) = some 1) := ⟨gz_in 649 (by decide +kernel) rfl, gz_in 650 (by decide +kernel) rfl, gz_in 91 (by decide +kernel) rfl, gz_in 651 (by decide +kernel) rfl, by decide +kernel⟩
theorem wm_RX7_63 : gz_WV RX7 63 RX7 yX7_atFirst cX7_atFirst 2 1 (some (.int)) := ⟨Or.inl (gz_in 832 (by decide +kernel) rfl), wc_yX7_atFirst⟩
theorem wm_RX7_67 : gz_WV RX7 67 RX5 yX5_get cX5_get 2 1 (some (.int)) := ⟨Or.inl (gz_in 833 (by decide +kernel) rfl), wc_yX5_get⟩
theorem wc_yX7_after : Cond.instanceMethod yX7_after ∈ gz_TB ∧ Cond.selects RX7 yX7_after yX7_after ∈ gz_TB ∧ Cond.initialized yX7_after.cls ∈ gz_TB ∧ Cond.code yX7_after cX7_after 5 (some (.int)) ∈ gz_TB ∧ (yX7_after.cls ≠ "java/lang/invoke/MethodHandle" ∧ yX7_after.cls ≠ "java/lang/invoke/VarHandle" ∧ (parseMethodDescriptor yX7_after.desc).map (fun d => d.parameters.length) = some 2) := ⟨gz_in 666 (by decide +kernel) rfl, gz_in 667 (by decide +kernel) rfl, gz_in 91 (by decide +kernel) rfl, gz_in 668 (by decide +kernel) rfl, by decide +kernel⟩
theorem wm_RX7_72 : gz_WV RX7 72 RX7 yX7_after cX7_after 5 2 (some (.int)) := ⟨Or.inl (gz_in 835 (by decide +kernel) rfl), wc_yX7_after⟩
theorem wf_RX7_15 : gz_FL RX7 15 RX7 "mode" "[I" := Or.inl (gz_in 218 (by decide +kernel) rfl)
theorem wf_RX7_28 : gz_FL RX7 28 RX7 "last" "[I" := Or.inl (gz_in 232 (by decide +kernel) rfl)
theorem wf_RX7_31 : gz_FL RX7 31 RX7 "empty" "[Z" := Or.inl (gz_in 235 (by decide +kernel) rfl)
theorem wf_RX7_19 : gz_FL RX7 19 RX7 "letters" "[I" := Or.inl (gz_in 221 (by decide +kernel) rfl)
theorem wf_RX0_9 : gz_FL RX0 9 RX0 "text" "[I" := Or.inl (gz_in 193 (by decide +kernel) rfl)
theorem wl_RX0_26 : Cond.methodLink RX0 26 arraycopyName ∈ gz_TB := gz_in 555 (by decide +kernel) rfl
theorem wf_RX0_15 : gz_FL RX0 15 RX0 "textLength" "I" := Or.inl (gz_in 195 (by decide +kernel) rfl)
theorem wf_RX0_22 : gz_FL RX0 22 RX0 "line" "LLongestTokens$Line;" := Or.inl (gz_in 197 (by decide +kernel) rfl)
theorem wc_yX5_copy : Cond.instanceMethod yX5_copy ∈ gz_TB ∧ Cond.selects RX5 yX5_copy yX5_copy ∈ gz_TB ∧ Cond.initialized yX5_copy.cls ∈ gz_TB ∧ Cond.code yX5_copy cX5_copy 2 none ∈ gz_TB ∧ (yX5_copy.cls ≠ "java/lang/invoke/MethodHandle" ∧ yX5_copy.cls ≠ "java/lang/invoke/VarHandle" ∧ (parseMethodDescriptor yX5_copy.desc).map (fun d => d.parameters.length) = some 1) := ⟨gz_in 559 (by decide +kernel) rfl, gz_in 560 (by decide +kernel) rfl, gz_in 90 (by decide +kernel) rfl, gz_in 561 (by decide +kernel) rfl, by decide +kernel⟩
theorem wm_RX0_32 : gz_WV RX0 32 RX5 yX5_copy cX5_copy 2 1 none := ⟨Or.inl (gz_in 558 (by decide +kernel) rfl), wc_yX5_copy⟩
theorem wf_RX0_36 : gz_FL RX0 36 RX10 "signs" "[I" := Or.inr ⟨"LongestTokens", gz_inN 121 (by decide +kernel) rfl⟩
theorem wf_RX0_41 : gz_FL RX0 41 RX10 "length" "I" := Or.inr ⟨"LongestTokens", gz_inN 125 (by decide +kernel) rfl⟩
def fJ_bitCount (a0 : Int32) (M0 : gz_M) : Option (Int32 × gz_M) := gz_lt (a0 - ((gz_ushr a0 1) &&& 1431655765)) fun v1 => gz_lt ((v1 &&& 858993459) + ((gz_ushr v1 2) &&& 858993459)) fun v2 => gz_lt ((v2 + (gz_ushr v2 4)) &&& 252645135) fun v3 => gz_lt (v3 + (gz_ushr v3 8)) fun v4 => gz_lt (v4 + (gz_ushr v4 16)) fun v5 => some (v5 &&& 63, M0)
set_option maxRecDepth 100000 in
theorem cJ_bitCount {cf : gz_CF} {pf : Nat → Bool} {l : Launch} {r : Int32} {M0 M' : gz_M} {a0 : Int32} (hf : fJ_bitCount a0 M0 = some (r, M')) : gz_CI l cf yJ6_bitCount_0f7a4 cJ6_bitCount_0f7a4 1 1 .int (fun _ => [.int a0]) pf M0 r M' := by
  refine gz_ofI (by decide +kernel) (fun _ => Nat.le_of_ble_eq_true rfl) (fun x X hc hE => ?_)
  show gz_At x 0 [(0, .int a0)] [] M0
  unfold fJ_bitCount at hf
  refine gr_iload_n X dJ6_bitCount_0f7a4_0 0 rfl rfl ?_
  refine gr_iload_n X dJ6_bitCount_0f7a4_1 0 rfl rfl ?_
  refine gr_iconst 1 X dJ6_bitCount_0f7a4_2 (by decide) ?_
  refine gr_iushr X dJ6_bitCount_0f7a4_3 ?_
  refine gr_ldc_w 1431655765 X dJ6_bitCount_0f7a4_4 wk_RJ6_265 ?_
  refine gr_iand X dJ6_bitCount_0f7a4_7 ?_
  refine gr_isub X dJ6_bitCount_0f7a4_8 ?_
  obtain ⟨v1, ev1, hf⟩ := gz_lte hf
  refine gr_istore_n [(0, .int v1)] X dJ6_bitCount_0f7a4_9 ev1 rfl (by decide) rfl ?_
  refine gr_iload_n X dJ6_bitCount_0f7a4_10 0 rfl rfl ?_
  refine gr_ldc_w 858993459 X dJ6_bitCount_0f7a4_11 wk_RJ6_266 ?_
  refine gr_iand X dJ6_bitCount_0f7a4_14 ?_
  refine gr_iload_n X dJ6_bitCount_0f7a4_15 0 rfl rfl ?_
  refine gr_iconst 2 X dJ6_bitCount_0f7a4_16 (by decide) ?_
  refine gr_iushr X dJ6_bitCount_0f7a4_17 ?_
  refine gr_ldc_w 858993459 X dJ6_bitCount_0f7a4_18 wk_RJ6_266 ?_
  refine gr_iand X dJ6_bitCount_0f7a4_21 ?_
  refine gr_iadd X dJ6_bitCount_0f7a4_22 ?_
  obtain ⟨v2, ev2, hf⟩ := gz_lte hf
  refine gr_istore_n [(0, .int v2)] X dJ6_bitCount_0f7a4_23 ev2 rfl (by decide) rfl ?_
  refine gr_iload_n X dJ6_bitCount_0f7a4_24 0 rfl rfl ?_
  refine gr_iload_n X dJ6_bitCount_0f7a4_25 0 rfl rfl ?_
  refine gr_iconst 4 X dJ6_bitCount_0f7a4_26 (by decide) ?_
  refine gr_iushr X dJ6_bitCount_0f7a4_27 ?_
  refine gr_iadd X dJ6_bitCount_0f7a4_28 ?_
  refine gr_ldc_w 252645135 X dJ6_bitCount_0f7a4_29 wk_RJ6_267 ?_
  refine gr_iand X dJ6_bitCount_0f7a4_32 ?_
  obtain ⟨v3, ev3, hf⟩ := gz_lte hf
  refine gr_istore_n [(0, .int v3)] X dJ6_bitCount_0f7a4_33 ev3 rfl (by decide) rfl ?_
  refine gr_iload_n X dJ6_bitCount_0f7a4_34 0 rfl rfl ?_
  refine gr_iload_n X dJ6_bitCount_0f7a4_35 0 rfl rfl ?_
  refine gr_bipush 8 X dJ6_bitCount_0f7a4_36 (by decide) ?_
  refine gr_iushr X dJ6_bitCount_0f7a4_38 ?_
  refine gr_iadd X dJ6_bitCount_0f7a4_39 ?_
  obtain ⟨v4, ev4, hf⟩ := gz_lte hf
  refine gr_istore_n [(0, .int v4)] X dJ6_bitCount_0f7a4_40 ev4 rfl (by decide) rfl ?_
  refine gr_iload_n X dJ6_bitCount_0f7a4_41 0 rfl rfl ?_
  refine gr_iload_n X dJ6_bitCount_0f7a4_42 0 rfl rfl ?_
  refine gr_bipush 16 X dJ6_bitCount_0f7a4_43 (by decide) ?_
  refine gr_iushr X dJ6_bitCount_0f7a4_45 ?_
  refine gr_iadd X dJ6_bitCount_0f7a4_46 ?_
  obtain ⟨v5, ev5, hf⟩ := gz_lte hf
  refine gr_istore_n [(0, .int v5)] X dJ6_bitCount_0f7a4_47 ev5 rfl (by decide) rfl ?_
  refine gr_iload_n X dJ6_bitCount_0f7a4_48 0 rfl rfl ?_
  refine gr_bipush 63 X dJ6_bitCount_0f7a4_49 (by decide) ?_
  refine gr_iand X dJ6_bitCount_0f7a4_51 ?_
  exact gz_EIu hE hf rfl dJ6_bitCount_0f7a4_52

def fJ_floorMod (a0 : Int32) (a1 : Int32) (M0 : gz_M) : Option (Int32 × gz_M) := gz_ck (!decide (a1 = 0)) <| gz_lt (gz_rem a0 a1) fun v2 => if 0 ≤ (a0 ^^^ a1) then (some (v2, M0)) else (if v2 = 0 then (some (v2, M0)) else (some (v2 + a1, M0)))
set_option maxRecDepth 100000 in
theorem cJ_floorMod {cf : gz_CF} {pf : Nat → Bool} {l : Launch} {r : Int32} {M0 M' : gz_M} {a0 : Int32} {a1 : Int32} (hf : fJ_floorMod a0 a1 M0 = some (r, M')) : gz_CI l cf yJ9_floorMod_7cf53 cJ9_floorMod_7cf53 3 1 .int (fun _ => [.int a0, .int a1]) pf M0 r M' := by
  refine gz_ofI (by decide +kernel) (fun _ => Nat.le_of_ble_eq_true rfl) (fun x X hc hE => ?_)
  show gz_At x 0 [(0, .int a0), (1, .int a1)] [] M0
  unfold fJ_floorMod at hf
  refine gr_iload_n X dJ9_floorMod_7cf53_0 0 rfl rfl ?_
  refine gr_iload_n X dJ9_floorMod_7cf53_1 1 rfl rfl ?_
  obtain ⟨h1, hf⟩ := gz_cke hf
  refine gr_irem X dJ9_floorMod_7cf53_2 (gz_nei h1) ?_
  obtain ⟨v2, ev2, hf⟩ := gz_lte hf
  refine gr_istore_n [(2, .int v2), (0, .int a0), (1, .int a1)] X dJ9_floorMod_7cf53_3 ev2 rfl (by decide) rfl ?_
  refine gr_iload_n X dJ9_floorMod_7cf53_4 1 rfl rfl ?_
  refine gr_iload_n X dJ9_floorMod_7cf53_5 2 rfl rfl ?_
  refine gr_ixor X dJ9_floorMod_7cf53_6 ?_
  refine gr_if_ge 18 X dJ9_floorMod_7cf53_7 (by decide) (fun h3 => ?_) (fun h3 => ?_)
  · rw [if_pos h3] at hf
    refine gr_iload_n X dJ9_floorMod_7cf53_18 0 rfl rfl ?_
    exact gz_EIu hE hf rfl dJ9_floorMod_7cf53_19
  · rw [if_neg h3] at hf
    refine gr_iload_n X dJ9_floorMod_7cf53_10 0 rfl rfl ?_
    refine gr_if_eq 18 X dJ9_floorMod_7cf53_11 (by decide) (fun h4 => ?_) (fun h4 => ?_)
    · rw [if_pos h4] at hf
      refine gr_iload_n X dJ9_floorMod_7cf53_18 0 rfl rfl ?_
      exact gz_EIu hE hf rfl dJ9_floorMod_7cf53_19
    · rw [if_neg h4] at hf
      refine gr_iload_n X dJ9_floorMod_7cf53_14 0 rfl rfl ?_
      refine gr_iload_n X dJ9_floorMod_7cf53_15 2 rfl rfl ?_
      refine gr_iadd X dJ9_floorMod_7cf53_16 ?_
      exact gz_EIu hE hf rfl dJ9_floorMod_7cf53_17

def fJ_fill_5 (k0 : Nat) (n0 : Nat) : Nat → Int32 → Int32 → Int32 → gz_M → Option (gz_M)
  | 0, _, _, _, _ => none
  | n + 1, x1, x2, x3, M0 => if x3 ≤ x2 then (some M0) else (gz_ck (gz_inb x2 n0) <| gz_lt (gz_w M0 k0 x2.toNatClampNeg x1) fun M3 => gz_lt (x2 + 1) fun v4 => fJ_fill_5 k0 n0 n x1 v4 x3 M3)
theorem bJ_fill_5 {x : gz_X} {cf : gz_CF} {pf : Nat → Bool} {l : Launch} {M' : gz_M} (X : gz_Ok x cJ7_fill_53178 RJ7 4 1 cf pf l) (hc : gx_cells x ≤ (gx_R x).cells ∧ gx_slots x ≤ (gx_R x).slots) (hE : gz_EV x cJ7_fill_53178 M') {k0 : Nat} {n0 : Nat} (hk0 : gz_KD cf pf k0 (gz_oI n0)) (hn0 : n0 < 2147483648) : ∀ (n : Nat) (x1 : Int32) (x2 : Int32) (x3 : Int32) (M0 : gz_M), fJ_fill_5 k0 n0 n x1 x2 x3 M0 = some M' → gz_At x 5 [(0, .ref (gx_ad x k0)), (1, .int x1), (2, .int x2), (3, .int x3)] [] M0 := by
  intro n
  induction n with
  | zero =>
    intro x1 x2 x3 M0  hf
    rw [fJ_fill_5] at hf
    cases hf
  | succ n ih =>
    intro x1 x2 x3 M0  hf
    rw [fJ_fill_5] at hf
    refine gr_iload_n X dJ7_fill_53178_5 2 rfl rfl ?_
    refine gr_iload_n X dJ7_fill_53178_6 3 rfl rfl ?_
    refine gr_icmp_ge 20 X dJ7_fill_53178_7 (by decide) (fun h1 => ?_) (fun h1 => ?_)
    · rw [if_pos h1] at hf
      exact gz_EVu hE hf dJ7_fill_53178_20
    · rw [if_neg h1] at hf
      refine gr_aload_n X dJ7_fill_53178_10 0 rfl rfl ?_
      refine gr_iload_n X dJ7_fill_53178_11 2 rfl rfl ?_
      refine gr_iload_n X dJ7_fill_53178_12 1 rfl rfl ?_
      obtain ⟨h2, hf⟩ := gz_cke hf
      obtain ⟨M3, eM3, hf⟩ := gz_lte hf
      refine gr_iastore X hk0 (gz_inp h2) eM3 dJ7_fill_53178_13 ?_
      obtain ⟨v4, ev4, hf⟩ := gz_lte hf
      refine gr_iinc 1 [(2, .int v4), (0, .ref (gx_ad x k0)), (1, .int x1), (3, .int x3)] X dJ7_fill_53178_14 2 rfl (by decide) ev4 (by decide) rfl ?_
      refine gr_goto 5 X dJ7_fill_53178_17 (by decide) ?_
      refine gr_sub (lv' := [(0, .ref (gx_ad x k0)), (1, .int x1), (2, .int v4), (3, .int x3)]) [1, 2, 0, 3] rfl ?_
      exact ih _ _ _ _ hf

def fJ_fill (k0 : Nat) (n0 : Nat) (a1 : Int32) (M0 : gz_M) : Option (gz_M) := gz_lt (Int32.ofNat n0) fun v1 => fJ_fill_5 k0 n0 gz_FU a1 0 v1 M0
set_option maxRecDepth 100000 in
theorem cJ_fill {cf : gz_CF} {pf : Nat → Bool} {l : Launch} {M0 M' : gz_M} {k0 : Nat} {n0 : Nat} {a1 : Int32} (hk0 : gz_KD cf pf k0 (gz_oI n0)) (hn0 : n0 < 2147483648) (hf : fJ_fill k0 n0 a1 M0 = some M') : gz_CV l cf yJ7_fill_53178 cJ7_fill_53178 4 1 (fun ad => [.ref (ad k0), .int a1]) pf M0 M' := by
  refine gz_ofV (by decide +kernel) (fun _ => Nat.le_of_ble_eq_true rfl) (fun x X hc hE => ?_)
  show gz_At x 0 [(0, .ref (gx_ad x k0)), (1, .int a1)] [] M0
  unfold fJ_fill at hf
  refine gr_iconst 0 X dJ7_fill_53178_0 (by decide) ?_
  refine gr_istore_n [(2, .int 0), (0, .ref (gx_ad x k0)), (1, .int a1)] X dJ7_fill_53178_1 rfl rfl (by decide) rfl ?_
  refine gr_aload_n X dJ7_fill_53178_2 1 rfl rfl ?_
  refine gr_arraylength X hk0 (Int32.ofNat n0) rfl dJ7_fill_53178_3 ?_
  obtain ⟨v1, ev1, hf⟩ := gz_lte hf
  refine gr_istore_n [(3, .int v1), (2, .int 0), (0, .ref (gx_ad x k0)), (1, .int a1)] X dJ7_fill_53178_4 ev1 rfl (by decide) rfl ?_
  refine gr_sub (lv' := [(0, .ref (gx_ad x k0)), (1, .int a1), (2, .int 0), (3, .int v1)]) [2, 3, 1, 0] rfl ?_
  exact bJ_fill_5 X hc hE hk0 hn0 _ _ _ _ _ hf

def f10_addFour_21 : Nat → Int32 → Int32 → gz_M → Option (Int32 × gz_M)
  | 0, _, _, _ => none
  | n + 1, x1, x2, M0 => if x2 < 0 then (some (1, M0)) else (gz_ck (gz_inb (M0.1 1 1) 80) <| gz_lt (gz_w M0 2 (M0.1 1 1).toNatClampNeg ((gz_ushr x1 x2) &&& 255)) fun M3 => gz_lt (gz_w M3 1 1 ((M3.1 1 1) + 1)) fun M4 => gz_lt (x2 + (-8)) fun v5 => f10_addFour_21 n x1 v5 M4)
theorem b10_addFour_21 {x : gz_X} {pf : Nat → Bool} {l : Launch} {r : Int32} {M' : gz_M} (X : gz_Ok x cX10_addFour RX10 3 1 gz_cfC pf l) (hc : gx_cells x ≤ (gx_R x).cells ∧ gx_slots x ≤ (gx_R x).slots) (hE : gz_EI x cX10_addFour .boolean r M') : ∀ (n : Nat) (x1 : Int32) (x2 : Int32) (M0 : gz_M), f10_addFour_21 n x1 x2 M0 = some (r, M') → gz_At x 21 [(0, .ref (gx_ad x 1)), (1, .int x1), (2, .int x2)] [] M0 := by
  intro n
  induction n with
  | zero =>
    intro x1 x2 M0  hf
    rw [f10_addFour_21] at hf
    cases hf
  | succ n ih =>
    intro x1 x2 M0  hf
    rw [f10_addFour_21] at hf
    refine gr_iload_n X dX10_addFour_21 2 rfl rfl ?_
    refine gr_if_lt 57 X dX10_addFour_22 (by decide) (fun h1 => ?_) (fun h1 => ?_)
    · rw [if_pos h1] at hf
      refine gr_iconst 1 X dX10_addFour_57 (by decide) ?_
      exact gz_EIu hE hf rfl dX10_addFour_58
    · rw [if_neg h1] at hf
      refine gr_aload_n X dX10_addFour_25 0 rfl rfl ?_
      refine gf10_0 X wf_RX10_9 dX10_addFour_26 ?_
      refine gr_aload_n X dX10_addFour_29 0 rfl rfl ?_
      refine gf10_1 X wf_RX10_15 dX10_addFour_30 ?_
      refine gr_iload_n X dX10_addFour_33 1 rfl rfl ?_
      refine gr_iload_n X dX10_addFour_34 2 rfl rfl ?_
      refine gr_iushr X dX10_addFour_35 ?_
      refine gr_sipush 255 X dX10_addFour_36 (by decide) ?_
      refine gr_iand X dX10_addFour_39 ?_
      obtain ⟨h2, hf⟩ := gz_cke hf
      obtain ⟨M3, eM3, hf⟩ := gz_lte hf
      refine gr_iastore X gk_C2 (gz_inp h2) eM3 dX10_addFour_40 ?_
      refine gr_aload_n X dX10_addFour_41 0 rfl rfl ?_
      refine gr_dup X dX10_addFour_42 rfl ?_
      refine gf10_1 X wf_RX10_15 dX10_addFour_43 ?_
      refine gr_iconst 1 X dX10_addFour_46 (by decide) ?_
      refine gr_iadd X dX10_addFour_47 ?_
      obtain ⟨M4, eM4, hf⟩ := gz_lte hf
      refine gp10_1 X wf_RX10_15 eM4 dX10_addFour_48 ?_
      obtain ⟨v5, ev5, hf⟩ := gz_lte hf
      refine gr_iinc (-8) [(2, .int v5), (0, .ref (gx_ad x 1)), (1, .int x1)] X dX10_addFour_51 2 rfl (by decide) ev5 (by decide) rfl ?_
      refine gr_goto 21 X dX10_addFour_54 (by decide) ?_
      refine gr_sub (lv' := [(0, .ref (gx_ad x 1)), (1, .int x1), (2, .int v5)]) [1, 2, 0] rfl ?_
      exact ih _ _ _ hf

def f10_addFour (a0 : Int32) (M0 : gz_M) : Option (Int32 × gz_M) := if (M0.1 1 1) < 0 then (some (0, M0)) else (if (M0.1 1 1) ≤ 76 then (f10_addFour_21 gz_FU a0 24 M0) else (some (0, M0)))
set_option maxRecDepth 100000 in
theorem c10_addFour {pf : Nat → Bool} {l : Launch} {r : Int32} {M0 M' : gz_M} {a0 : Int32} (hf : f10_addFour a0 M0 = some (r, M')) : gz_CI l gz_cfC yX10_addFour cX10_addFour 3 1 .boolean (fun ad => [.ref (ad 1), .int a0]) pf M0 r M' := by
  refine gz_ofI (by decide +kernel) (fun _ => Nat.le_of_ble_eq_true rfl) (fun x X hc hE => ?_)
  show gz_At x 0 [(0, .ref (gx_ad x 1)), (1, .int a0)] [] M0
  unfold f10_addFour at hf
  refine gr_aload_n X dX10_addFour_0 0 rfl rfl ?_
  refine gf10_1 X wf_RX10_15 dX10_addFour_1 ?_
  refine gr_if_lt 16 X dX10_addFour_4 (by decide) (fun h1 => ?_) (fun h1 => ?_)
  · rw [if_pos h1] at hf
    refine gr_iconst 0 X dX10_addFour_16 (by decide) ?_
    exact gz_EIu hE hf rfl dX10_addFour_17
  · rw [if_neg h1] at hf
    refine gr_aload_n X dX10_addFour_7 0 rfl rfl ?_
    refine gf10_1 X wf_RX10_15 dX10_addFour_8 ?_
    refine gr_bipush 76 X dX10_addFour_11 (by decide) ?_
    refine gr_icmp_le 18 X dX10_addFour_13 (by decide) (fun h2 => ?_) (fun h2 => ?_)
    · rw [if_pos h2] at hf
      refine gr_bipush 24 X dX10_addFour_18 (by decide) ?_
      refine gr_istore_n [(2, .int 24), (0, .ref (gx_ad x 1)), (1, .int a0)] X dX10_addFour_20 rfl rfl (by decide) rfl ?_
      refine gr_sub (lv' := [(0, .ref (gx_ad x 1)), (1, .int a0), (2, .int 24)]) [1, 2, 0] rfl ?_
      exact b10_addFour_21 X hc hE _ _ _ _ hf
    · rw [if_neg h2] at hf
      refine gr_iconst 0 X dX10_addFour_16 (by decide) ?_
      exact gz_EIu hE hf rfl dX10_addFour_17

def f10_shorten (a0 : Int32) (M0 : gz_M) : Option (Int32 × gz_M) := if a0 < 0 then (some (0, M0)) else (if a0 ≤ (M0.1 1 1) then (gz_lt (gz_w M0 1 1 a0) fun M3 => some (1, M3)) else (some (0, M0)))
set_option maxRecDepth 100000 in
theorem c10_shorten {pf : Nat → Bool} {l : Launch} {r : Int32} {M0 M' : gz_M} {a0 : Int32} (hf : f10_shorten a0 M0 = some (r, M')) : gz_CI l gz_cfC yX10_shorten cX10_shorten 2 1 .boolean (fun ad => [.ref (ad 1), .int a0]) pf M0 r M' := by
  refine gz_ofI (by decide +kernel) (fun _ => Nat.le_of_ble_eq_true rfl) (fun x X hc hE => ?_)
  show gz_At x 0 [(0, .ref (gx_ad x 1)), (1, .int a0)] [] M0
  unfold f10_shorten at hf
  refine gr_iload_n X dX10_shorten_0 1 rfl rfl ?_
  refine gr_if_lt 12 X dX10_shorten_1 (by decide) (fun h1 => ?_) (fun h1 => ?_)
  · rw [if_pos h1] at hf
    refine gr_iconst 0 X dX10_shorten_12 (by decide) ?_
    exact gz_EIu hE hf rfl dX10_shorten_13
  · rw [if_neg h1] at hf
    refine gr_iload_n X dX10_shorten_4 1 rfl rfl ?_
    refine gr_aload_n X dX10_shorten_5 0 rfl rfl ?_
    refine gf10_1 X wf_RX10_15 dX10_shorten_6 ?_
    refine gr_icmp_le 14 X dX10_shorten_9 (by decide) (fun h2 => ?_) (fun h2 => ?_)
    · rw [if_pos h2] at hf
      refine gr_aload_n X dX10_shorten_14 0 rfl rfl ?_
      refine gr_iload_n X dX10_shorten_15 1 rfl rfl ?_
      obtain ⟨M3, eM3, hf⟩ := gz_lte hf
      refine gp10_1 X wf_RX10_15 eM3 dX10_shorten_16 ?_
      refine gr_iconst 1 X dX10_shorten_19 (by decide) ?_
      exact gz_EIu hE hf rfl dX10_shorten_20
    · rw [if_neg h2] at hf
      refine gr_iconst 0 X dX10_shorten_12 (by decide) ?_
      exact gz_EIu hE hf rfl dX10_shorten_13

def f10_empty (M0 : gz_M) : Option (gz_M) := gz_lt (gz_w M0 1 1 0) fun M1 => some M1
set_option maxRecDepth 100000 in
theorem c10_empty {pf : Nat → Bool} {l : Launch} {M0 M' : gz_M} (hf : f10_empty M0 = some M') : gz_CV l gz_cfC yX10_empty cX10_empty 1 1 (fun ad => [.ref (ad 1)]) pf M0 M' := by
  refine gz_ofV (by decide +kernel) (fun _ => Nat.le_of_ble_eq_true rfl) (fun x X hc hE => ?_)
  show gz_At x 0 [(0, .ref (gx_ad x 1))] [] M0
  unfold f10_empty at hf
  refine gr_aload_n X dX10_empty_0 0 rfl rfl ?_
  refine gr_iconst 0 X dX10_empty_1 (by decide) ?_
  obtain ⟨M1, eM1, hf⟩ := gz_lte hf
  refine gp10_1 X wf_RX10_15 eM1 dX10_empty_2 ?_
  exact gz_EVu hE hf dX10_empty_5

def f10_get (a0 : Int32) (M0 : gz_M) : Option (Int32 × gz_M) := if a0 < 0 then (some ((-1), M0)) else (if (M0.1 1 1) ≤ a0 then (some ((-1), M0)) else (if 80 ≤ a0 then (some ((-1), M0)) else (gz_ck (gz_inb a0 80) <| some (M0.1 2 a0.toNatClampNeg, M0))))
set_option maxRecDepth 100000 in
theorem c10_get {pf : Nat → Bool} {l : Launch} {r : Int32} {M0 M' : gz_M} {a0 : Int32} (hf : f10_get a0 M0 = some (r, M')) : gz_CI l gz_cfC yX10_get cX10_get 2 1 .int (fun ad => [.ref (ad 1), .int a0]) pf M0 r M' := by
  refine gz_ofI (by decide +kernel) (fun _ => Nat.le_of_ble_eq_true rfl) (fun x X hc hE => ?_)
  show gz_At x 0 [(0, .ref (gx_ad x 1)), (1, .int a0)] [] M0
  unfold f10_get at hf
  refine gr_iload_n X dX10_get_0 1 rfl rfl ?_
  refine gr_if_lt 27 X dX10_get_1 (by decide) (fun h1 => ?_) (fun h1 => ?_)
  · rw [if_pos h1] at hf
    refine gr_iconst (-1) X dX10_get_27 (by decide) ?_
    exact gz_EIu hE hf rfl dX10_get_28
  · rw [if_neg h1] at hf
    refine gr_iload_n X dX10_get_4 1 rfl rfl ?_
    refine gr_aload_n X dX10_get_5 0 rfl rfl ?_
    refine gf10_1 X wf_RX10_15 dX10_get_6 ?_
    refine gr_icmp_ge 27 X dX10_get_9 (by decide) (fun h2 => ?_) (fun h2 => ?_)
    · rw [if_pos h2] at hf
      refine gr_iconst (-1) X dX10_get_27 (by decide) ?_
      exact gz_EIu hE hf rfl dX10_get_28
    · rw [if_neg h2] at hf
      refine gr_iload_n X dX10_get_12 1 rfl rfl ?_
      refine gr_bipush 80 X dX10_get_13 (by decide) ?_
      refine gr_icmp_ge 27 X dX10_get_15 (by decide) (fun h3 => ?_) (fun h3 => ?_)
      · rw [if_pos h3] at hf
        refine gr_iconst (-1) X dX10_get_27 (by decide) ?_
        exact gz_EIu hE hf rfl dX10_get_28
      · rw [if_neg h3] at hf
        refine gr_aload_n X dX10_get_18 0 rfl rfl ?_
        refine gf10_0 X wf_RX10_9 dX10_get_19 ?_
        refine gr_iload_n X dX10_get_22 1 rfl rfl ?_
        obtain ⟨h4, hf⟩ := gz_cke hf
        refine gr_iaload X gk_C2 (gz_inp h4) dX10_get_23 ?_
        refine gr_goto 28 X dX10_get_24 (by decide) ?_
        exact gz_EIu hE hf rfl dX10_get_28

def f5_has (k : Nat) (a0 : Int32) (M0 : gz_M) : Option (Int32 × gz_M) := if a0 < 0 then (some (0, M0)) else (if (M0.1 k 1) ≤ a0 then (some (0, M0)) else (some (1, M0)))
set_option maxRecDepth 100000 in
theorem c5_has {pf : Nat → Bool} {l : Launch} {r : Int32} {M0 M' : gz_M} {k : Nat} {a0 : Int32} (hk : gz_IsX5 pf k) (hf : f5_has k a0 M0 = some (r, M')) : gz_CI l gz_cfC yX5_has cX5_has 2 1 .boolean (fun ad => [.ref (ad k), .int a0]) pf M0 r M' := by
  refine gz_ofI (by decide +kernel) (fun _ => Nat.le_of_ble_eq_true rfl) (fun x X hc hE => ?_)
  show gz_At x 0 [(0, .ref (gx_ad x k)), (1, .int a0)] [] M0
  unfold f5_has at hf
  refine gr_iload_n X dX5_has_0 1 rfl rfl ?_
  refine gr_if_lt 16 X dX5_has_1 (by decide) (fun h1 => ?_) (fun h1 => ?_)
  · rw [if_pos h1] at hf
    refine gr_iconst 0 X dX5_has_16 (by decide) ?_
    exact gz_EIu hE hf rfl dX5_has_17
  · rw [if_neg h1] at hf
    refine gr_iload_n X dX5_has_4 1 rfl rfl ?_
    refine gr_aload_n X dX5_has_5 0 rfl rfl ?_
    refine gf5_1 X (gk_X5o hk) wf_RX5_15 dX5_has_6 ?_
    refine gr_icmp_ge 16 X dX5_has_9 (by decide) (fun h2 => ?_) (fun h2 => ?_)
    · rw [if_pos h2] at hf
      refine gr_iconst 0 X dX5_has_16 (by decide) ?_
      exact gz_EIu hE hf rfl dX5_has_17
    · rw [if_neg h2] at hf
      refine gr_iconst 1 X dX5_has_12 (by decide) ?_
      refine gr_goto 17 X dX5_has_13 (by decide) ?_
      exact gz_EIu hE hf rfl dX5_has_17

def f5_get (k : Nat) (a0 : Int32) (M0 : gz_M) : Option (Int32 × gz_M) := if a0 < 0 then (some ((-1), M0)) else (if (M0.1 k 1) ≤ a0 then (some ((-1), M0)) else (if 24 ≤ a0 then (some ((-1), M0)) else (gz_ck (gz_inb a0 24) <| some (M0.1 (k + 1) a0.toNatClampNeg, M0))))
set_option maxRecDepth 100000 in
theorem c5_get {pf : Nat → Bool} {l : Launch} {r : Int32} {M0 M' : gz_M} {k : Nat} {a0 : Int32} (hk : gz_IsX5 pf k) (hf : f5_get k a0 M0 = some (r, M')) : gz_CI l gz_cfC yX5_get cX5_get 2 1 .int (fun ad => [.ref (ad k), .int a0]) pf M0 r M' := by
  refine gz_ofI (by decide +kernel) (fun _ => Nat.le_of_ble_eq_true rfl) (fun x X hc hE => ?_)
  show gz_At x 0 [(0, .ref (gx_ad x k)), (1, .int a0)] [] M0
  unfold f5_get at hf
  refine gr_iload_n X dX5_get_0 1 rfl rfl ?_
  refine gr_if_lt 27 X dX5_get_1 (by decide) (fun h1 => ?_) (fun h1 => ?_)
  · rw [if_pos h1] at hf
    refine gr_iconst (-1) X dX5_get_27 (by decide) ?_
    exact gz_EIu hE hf rfl dX5_get_28
  · rw [if_neg h1] at hf
    refine gr_iload_n X dX5_get_4 1 rfl rfl ?_
    refine gr_aload_n X dX5_get_5 0 rfl rfl ?_
    refine gf5_1 X (gk_X5o hk) wf_RX5_15 dX5_get_6 ?_
    refine gr_icmp_ge 27 X dX5_get_9 (by decide) (fun h2 => ?_) (fun h2 => ?_)
    · rw [if_pos h2] at hf
      refine gr_iconst (-1) X dX5_get_27 (by decide) ?_
      exact gz_EIu hE hf rfl dX5_get_28
    · rw [if_neg h2] at hf
      refine gr_iload_n X dX5_get_12 1 rfl rfl ?_
      refine gr_bipush 24 X dX5_get_13 (by decide) ?_
      refine gr_icmp_ge 27 X dX5_get_15 (by decide) (fun h3 => ?_) (fun h3 => ?_)
      · rw [if_pos h3] at hf
        refine gr_iconst (-1) X dX5_get_27 (by decide) ?_
        exact gz_EIu hE hf rfl dX5_get_28
      · rw [if_neg h3] at hf
        refine gr_aload_n X dX5_get_18 0 rfl rfl ?_
        refine gf5_0 X (gk_X5o hk) wf_RX5_9 dX5_get_19 ?_
        refine gr_iload_n X dX5_get_22 1 rfl rfl ?_
        obtain ⟨h4, hf⟩ := gz_cke hf
        refine gr_iaload X (gk_X51 hk) (gz_inp h4) dX5_get_23 ?_
        refine gr_goto 28 X dX5_get_24 (by decide) ?_
        exact gz_EIu hE hf rfl dX5_get_28

def f5_copy (k : Nat) (k0 : Nat) (M0 : gz_M) : Option (gz_M) := gz_lt (gz_cp M0 (k0 + 1) (k + 1) 0 0 24) fun M1 => gz_lt (gz_w M1 k 1 (M1.1 k0 1)) fun M2 => some M2
set_option maxRecDepth 100000 in
theorem c5_copy {pf : Nat → Bool} {l : Launch} {M0 M' : gz_M} {k : Nat} {k0 : Nat} (hk : gz_IsX5 pf k) (hk0 : gz_IsX5 pf k0) (hf : f5_copy k k0 M0 = some M') : gz_CV l gz_cfC yX5_copy cX5_copy 2 1 (fun ad => [.ref (ad k), .ref (ad k0)]) pf M0 M' := by
  refine gz_ofV (by decide +kernel) (fun _ => Nat.le_of_ble_eq_true rfl) (fun x X hc hE => ?_)
  show gz_At x 0 [(0, .ref (gx_ad x k)), (1, .ref (gx_ad x k0))] [] M0
  unfold f5_copy at hf
  refine gr_aload_n X dX5_copy_0 1 rfl rfl ?_
  refine gf5_0 X (gk_X5o hk0) wf_RX5_9 dX5_copy_1 ?_
  refine gr_iconst 0 X dX5_copy_4 (by decide) ?_
  refine gr_aload_n X dX5_copy_5 0 rfl rfl ?_
  refine gf5_0 X (gk_X5o hk) wf_RX5_9 dX5_copy_6 ?_
  refine gr_iconst 0 X dX5_copy_9 (by decide) ?_
  refine gr_bipush 24 X dX5_copy_10 (by decide) ?_
  obtain ⟨M1, eM1, hf⟩ := gz_lte hf
  refine gr_acopy X (by decide) (gk_X51 hk0) (gk_X51 hk) wl_RX5_19 (sp := 0) (dp := 0) (n := 24) rfl rfl rfl (by decide) (by decide) (by decide) (by decide) (by decide) (Nat.le_of_ble_eq_true rfl) eM1 dX5_copy_12 ?_
  refine gr_aload_n X dX5_copy_15 0 rfl rfl ?_
  refine gr_aload_n X dX5_copy_16 1 rfl rfl ?_
  refine gf5_1 X (gk_X5o hk0) wf_RX5_15 dX5_copy_17 ?_
  obtain ⟨M2, eM2, hf⟩ := gz_lte hf
  refine gp5_1 X (gk_X5o hk) wf_RX5_15 eM2 dX5_copy_20 ?_
  exact gz_EVu hE hf dX5_copy_23

def f5_insert_27 (k : Nat) : Nat → Int32 → Int32 → Int32 → gz_M → Option (gz_M)
  | 0, _, _, _, _ => none
  | n + 1, x1, x2, x3, M0 => if x3 ≤ x1 then (gz_ck (gz_inb x1 24) <| gz_lt (gz_w M0 (k + 1) x1.toNatClampNeg x2) fun M3 => gz_lt (gz_w M3 k 1 ((M3.1 k 1) + 1)) fun M4 => some M4) else (gz_ck (gz_inb (x3 - 1) 24) <| gz_ck (gz_inb x3 24) <| gz_lt (gz_w M0 (k + 1) x3.toNatClampNeg (M0.1 (k + 1) (x3 - 1).toNatClampNeg)) fun M7 => gz_lt (x3 + (-1)) fun v8 => f5_insert_27 k n x1 x2 v8 M7)
theorem b5_insert_27 {x : gz_X} {pf : Nat → Bool} {l : Launch} {M' : gz_M} (X : gz_Ok x cX5_insert RX5 4 1 gz_cfC pf l) (hc : gx_cells x ≤ (gx_R x).cells ∧ gx_slots x ≤ (gx_R x).slots) (hE : gz_EV x cX5_insert M') {k : Nat} (hk : gz_IsX5 pf k) : ∀ (n : Nat) (x1 : Int32) (x2 : Int32) (x3 : Int32) (M0 : gz_M), f5_insert_27 k n x1 x2 x3 M0 = some M' → gz_At x 27 [(0, .ref (gx_ad x k)), (1, .int x1), (2, .int x2), (3, .int x3)] [] M0 := by
  intro n
  induction n with
  | zero =>
    intro x1 x2 x3 M0  hf
    rw [f5_insert_27] at hf
    cases hf
  | succ n ih =>
    intro x1 x2 x3 M0  hf
    rw [f5_insert_27] at hf
    refine gr_iload_n X dX5_insert_27 3 rfl rfl ?_
    refine gr_iload_n X dX5_insert_28 1 rfl rfl ?_
    refine gr_icmp_le 52 X dX5_insert_29 (by decide) (fun h1 => ?_) (fun h1 => ?_)
    · rw [if_pos h1] at hf
      refine gr_aload_n X dX5_insert_52 0 rfl rfl ?_
      refine gf5_0 X (gk_X5o hk) wf_RX5_9 dX5_insert_53 ?_
      refine gr_iload_n X dX5_insert_56 1 rfl rfl ?_
      refine gr_iload_n X dX5_insert_57 2 rfl rfl ?_
      obtain ⟨h2, hf⟩ := gz_cke hf
      obtain ⟨M3, eM3, hf⟩ := gz_lte hf
      refine gr_iastore X (gk_X51 hk) (gz_inp h2) eM3 dX5_insert_58 ?_
      refine gr_aload_n X dX5_insert_59 0 rfl rfl ?_
      refine gr_dup X dX5_insert_60 rfl ?_
      refine gf5_1 X (gk_X5o hk) wf_RX5_15 dX5_insert_61 ?_
      refine gr_iconst 1 X dX5_insert_64 (by decide) ?_
      refine gr_iadd X dX5_insert_65 ?_
      obtain ⟨M4, eM4, hf⟩ := gz_lte hf
      refine gp5_1 X (gk_X5o hk) wf_RX5_15 eM4 dX5_insert_66 ?_
      exact gz_EVu hE hf dX5_insert_69
    · rw [if_neg h1] at hf
      refine gr_aload_n X dX5_insert_32 0 rfl rfl ?_
      refine gf5_0 X (gk_X5o hk) wf_RX5_9 dX5_insert_33 ?_
      refine gr_iload_n X dX5_insert_36 3 rfl rfl ?_
      refine gr_aload_n X dX5_insert_37 0 rfl rfl ?_
      refine gf5_0 X (gk_X5o hk) wf_RX5_9 dX5_insert_38 ?_
      refine gr_iload_n X dX5_insert_41 3 rfl rfl ?_
      refine gr_iconst 1 X dX5_insert_42 (by decide) ?_
      refine gr_isub X dX5_insert_43 ?_
      obtain ⟨h5, hf⟩ := gz_cke hf
      refine gr_iaload X (gk_X51 hk) (gz_inp h5) dX5_insert_44 ?_
      obtain ⟨h6, hf⟩ := gz_cke hf
      obtain ⟨M7, eM7, hf⟩ := gz_lte hf
      refine gr_iastore X (gk_X51 hk) (gz_inp h6) eM7 dX5_insert_45 ?_
      obtain ⟨v8, ev8, hf⟩ := gz_lte hf
      refine gr_iinc (-1) [(3, .int v8), (0, .ref (gx_ad x k)), (1, .int x1), (2, .int x2)] X dX5_insert_46 3 rfl (by decide) ev8 (by decide) rfl ?_
      refine gr_goto 27 X dX5_insert_49 (by decide) ?_
      refine gr_sub (lv' := [(0, .ref (gx_ad x k)), (1, .int x1), (2, .int x2), (3, .int v8)]) [1, 2, 3, 0] rfl ?_
      exact ih _ _ _ _ hf

def f5_insert (k : Nat) (a0 : Int32) (a1 : Int32) (M0 : gz_M) : Option (gz_M) := if a0 < 0 then (some M0) else (if (M0.1 k 1) < a0 then (some M0) else (if (M0.1 k 1) < 24 then (gz_lt (M0.1 k 1) fun v4 => f5_insert_27 k gz_FU a0 a1 v4 M0) else (some M0)))
set_option maxRecDepth 100000 in
theorem c5_insert {pf : Nat → Bool} {l : Launch} {M0 M' : gz_M} {k : Nat} {a0 : Int32} {a1 : Int32} (hk : gz_IsX5 pf k) (hf : f5_insert k a0 a1 M0 = some M') : gz_CV l gz_cfC yX5_insert cX5_insert 4 1 (fun ad => [.ref (ad k), .int a0, .int a1]) pf M0 M' := by
  refine gz_ofV (by decide +kernel) (fun _ => Nat.le_of_ble_eq_true rfl) (fun x X hc hE => ?_)
  show gz_At x 0 [(0, .ref (gx_ad x k)), (1, .int a0), (2, .int a1)] [] M0
  unfold f5_insert at hf
  refine gr_iload_n X dX5_insert_0 1 rfl rfl ?_
  refine gr_if_lt 21 X dX5_insert_1 (by decide) (fun h1 => ?_) (fun h1 => ?_)
  · rw [if_pos h1] at hf
    exact gz_EVu hE hf dX5_insert_21
  · rw [if_neg h1] at hf
    refine gr_iload_n X dX5_insert_4 1 rfl rfl ?_
    refine gr_aload_n X dX5_insert_5 0 rfl rfl ?_
    refine gf5_1 X (gk_X5o hk) wf_RX5_15 dX5_insert_6 ?_
    refine gr_icmp_gt 21 X dX5_insert_9 (by decide) (fun h2 => ?_) (fun h2 => ?_)
    · rw [if_pos h2] at hf
      exact gz_EVu hE hf dX5_insert_21
    · rw [if_neg h2] at hf
      refine gr_aload_n X dX5_insert_12 0 rfl rfl ?_
      refine gf5_1 X (gk_X5o hk) wf_RX5_15 dX5_insert_13 ?_
      refine gr_bipush 24 X dX5_insert_16 (by decide) ?_
      refine gr_icmp_lt 22 X dX5_insert_18 (by decide) (fun h3 => ?_) (fun h3 => ?_)
      · rw [if_pos h3] at hf
        refine gr_aload_n X dX5_insert_22 0 rfl rfl ?_
        refine gf5_1 X (gk_X5o hk) wf_RX5_15 dX5_insert_23 ?_
        obtain ⟨v4, ev4, hf⟩ := gz_lte hf
        refine gr_istore_n [(3, .int v4), (0, .ref (gx_ad x k)), (1, .int a0), (2, .int a1)] X dX5_insert_26 ev4 rfl (by decide) rfl ?_
        refine gr_sub (lv' := [(0, .ref (gx_ad x k)), (1, .int a0), (2, .int a1), (3, .int v4)]) [1, 2, 3, 0] rfl ?_
        exact b5_insert_27 X hc hE hk _ _ _ _ _ hf
      · rw [if_neg h3] at hf
        exact gz_EVu hE hf dX5_insert_21

def f5_take_7 (k : Nat) : Nat → Int32 → gz_M → Option (gz_M)
  | 0, _, _ => none
  | n + 1, x2, M0 => if (M0.1 1 1) ≤ x2 then (some M0) else (gz_bd2 (f10_get x2 M0) fun v2 M3 => gz_bd (f5_insert k x2 (v2 - 97) M3) fun M5 => gz_lt (x2 + 1) fun v7 => f5_take_7 k n v7 M5)
theorem b5_take_7 {x : gz_X} {pf : Nat → Bool} {l : Launch} {M' : gz_M} (X : gz_Ok x cX5_take RX5 3 2 gz_cfC pf l) (hc : gx_cells x ≤ (gx_R x).cells ∧ gx_slots x ≤ (gx_R x).slots) (hE : gz_EV x cX5_take M') {k : Nat} (hk : gz_IsX5 pf k) : ∀ (n : Nat) (x2 : Int32) (M0 : gz_M), f5_take_7 k n x2 M0 = some M' → gz_At x 7 [(0, .ref (gx_ad x k)), (1, .ref (gx_ad x 1)), (2, .int x2)] [] M0 := by
  intro n
  induction n with
  | zero =>
    intro x2 M0  hf
    rw [f5_take_7] at hf
    cases hf
  | succ n ih =>
    intro x2 M0  hf
    rw [f5_take_7] at hf
    refine gr_iload_n X dX5_take_7 2 rfl rfl ?_
    refine gr_aload_n X dX5_take_8 1 rfl rfl ?_
    refine gf10_1 X wf_RX5_25 dX5_take_9 ?_
    refine gr_icmp_ge 34 X dX5_take_12 (by decide) (fun h1 => ?_) (fun h1 => ?_)
    · rw [if_pos h1] at hf
      exact gz_EVu hE hf dX5_take_34
    · rw [if_neg h1] at hf
      refine gr_aload_n X dX5_take_15 0 rfl rfl ?_
      refine gr_iload_n X dX5_take_16 2 rfl rfl ?_
      refine gr_aload_n X dX5_take_17 1 rfl rfl ?_
      refine gr_iload_n X dX5_take_18 2 rfl rfl ?_
      obtain ⟨v2, M3, q4, hf⟩ := gz_bd2e hf
      refine gr_callI (asF := fun ad => [.ref (ad 1), .int x2]) [.int x2] X (c10_get q4) rfl wm_RX5_28 rfl (X.kd gk_C1).1 ((X.kd gk_C1).2 _ _ _ _) rfl (by decide) (by decide) rfl (Nat.le_of_ble_eq_true rfl) hc dX5_take_19 ?_
      refine gr_bipush 97 X dX5_take_22 (by decide) ?_
      refine gr_isub X dX5_take_24 ?_
      obtain ⟨M5, q6, hf⟩ := gz_bde hf
      refine gr_callV (asF := fun ad => [.ref (ad k), .int x2, .int (v2 - 97)]) [.int x2, .int (v2 - 97)] X (c5_insert hk q6) rfl wm_RX5_32 rfl (X.kd (gk_X5o hk)).1 ((X.kd (gk_X5o hk)).2 _ _ _ _) rfl (by decide) (by decide) rfl (Nat.le_of_ble_eq_true rfl) hc dX5_take_25 ?_
      obtain ⟨v7, ev7, hf⟩ := gz_lte hf
      refine gr_iinc 1 [(2, .int v7), (0, .ref (gx_ad x k)), (1, .ref (gx_ad x 1))] X dX5_take_28 2 rfl (by decide) ev7 (by decide) rfl ?_
      refine gr_goto 7 X dX5_take_31 (by decide) ?_
      refine gr_sub (lv' := [(0, .ref (gx_ad x k)), (1, .ref (gx_ad x 1)), (2, .int v7)]) [1, 2, 0] rfl ?_
      exact ih _ _ hf

def f5_take (k : Nat) (M0 : gz_M) : Option (gz_M) := gz_lt (gz_w M0 k 1 0) fun M1 => f5_take_7 k gz_FU 0 M1
set_option maxRecDepth 100000 in
theorem c5_take {pf : Nat → Bool} {l : Launch} {M0 M' : gz_M} {k : Nat} (hk : gz_IsX5 pf k) (hf : f5_take k M0 = some M') : gz_CV l gz_cfC yX5_take cX5_take 3 2 (fun ad => [.ref (ad k), .ref (ad 1)]) pf M0 M' := by
  refine gz_ofV (by decide +kernel) (fun _ => Nat.le_of_ble_eq_true rfl) (fun x X hc hE => ?_)
  show gz_At x 0 [(0, .ref (gx_ad x k)), (1, .ref (gx_ad x 1))] [] M0
  unfold f5_take at hf
  refine gr_aload_n X dX5_take_0 0 rfl rfl ?_
  refine gr_iconst 0 X dX5_take_1 (by decide) ?_
  obtain ⟨M1, eM1, hf⟩ := gz_lte hf
  refine gp5_1 X (gk_X5o hk) wf_RX5_15 eM1 dX5_take_2 ?_
  refine gr_iconst 0 X dX5_take_5 (by decide) ?_
  refine gr_istore_n [(2, .int 0), (0, .ref (gx_ad x k)), (1, .ref (gx_ad x 1))] X dX5_take_6 rfl rfl (by decide) rfl ?_
  refine gr_sub (lv' := [(0, .ref (gx_ad x k)), (1, .ref (gx_ad x 1)), (2, .int 0)]) [1, 2, 0] rfl ?_
  exact b5_take_7 X hc hE hk _ _ _ hf

def f5_refusal_73 (k : Nat) (x1 : Int32) (M0 : gz_M) : Option (Int32 × gz_M) := if x1 = 1 then (if (M0.1 k 1) < 24 then (some (0, M0)) else (some ((-3), M0))) else (some (0, M0))
theorem b5_refusal_73 {x : gz_X} {pf : Nat → Bool} {l : Launch} {r : Int32} {M' : gz_M} (X : gz_Ok x cX5_refusal RX5 6 2 gz_cfC pf l) (hc : gx_cells x ≤ (gx_R x).cells ∧ gx_slots x ≤ (gx_R x).slots) (hE : gz_EI x cX5_refusal .int r M') {k : Nat} (hk : gz_IsX5 pf k) : ∀ (x1 : Int32) (M0 : gz_M), f5_refusal_73 k x1 M0 = some (r, M') → gz_At x 73 [(0, .ref (gx_ad x k)), (1, .int x1)] [] M0 := by
  intro x1 M0  hf
  rw [f5_refusal_73] at hf
  refine gr_iload_n X dX5_refusal_73 1 rfl rfl ?_
  refine gr_iconst 1 X dX5_refusal_74 (by decide) ?_
  refine gr_icmp_ne 92 X dX5_refusal_75 (by decide) (fun h1 => ?_) (fun h1 => ?_)
  · rw [if_pos h1] at hf
    refine gr_aload_n X dX5_refusal_78 0 rfl rfl ?_
    refine gf5_1 X (gk_X5o hk) wf_RX5_15 dX5_refusal_79 ?_
    refine gr_bipush 24 X dX5_refusal_82 (by decide) ?_
    refine gr_icmp_lt 92 X dX5_refusal_84 (by decide) (fun h2 => ?_) (fun h2 => ?_)
    · rw [if_pos h2] at hf
      refine gr_iconst 0 X dX5_refusal_92 (by decide) ?_
      exact gz_EIu hE hf rfl dX5_refusal_93
    · rw [if_neg h2] at hf
      refine gr_bipush (-3) X dX5_refusal_87 (by decide) ?_
      refine gr_goto 93 X dX5_refusal_89 (by decide) ?_
      exact gz_EIu hE hf rfl dX5_refusal_93
  · rw [if_neg h1] at hf
    refine gr_iconst 0 X dX5_refusal_92 (by decide) ?_
    exact gz_EIu hE hf rfl dX5_refusal_93

def f5_refusal_43 (k : Nat) (x1 : Int32) (x2 : Int32) (x3 : Int32) (x4 : Int32) (s0 : Int32) (M0 : gz_M) : Option (Int32 × gz_M) := if x4 = 0 then (some ((-1), M0)) else (if s0 = 0 then (some ((-1), M0)) else (if x1 = 0 then (gz_bd2 (f5_get k x2 M0) fun v4 M5 => if v4 = x3 then (some ((-2), M5)) else (f5_refusal_73 k x1 M5)) else (f5_refusal_73 k x1 M0)))
theorem b5_refusal_43 {x : gz_X} {pf : Nat → Bool} {l : Launch} {r : Int32} {M' : gz_M} (X : gz_Ok x cX5_refusal RX5 6 2 gz_cfC pf l) (hc : gx_cells x ≤ (gx_R x).cells ∧ gx_slots x ≤ (gx_R x).slots) (hE : gz_EI x cX5_refusal .int r M') {k : Nat} (hk : gz_IsX5 pf k) : ∀ (x1 : Int32) (x2 : Int32) (x3 : Int32) (x4 : Int32) (s0 : Int32) (M0 : gz_M), f5_refusal_43 k x1 x2 x3 x4 s0 M0 = some (r, M') → gz_At x 43 [(0, .ref (gx_ad x k)), (1, .int x1), (2, .int x2), (3, .int x3), (4, .int x4)] [.int s0] M0 := by
  intro x1 x2 x3 x4 s0 M0  hf
  rw [f5_refusal_43] at hf
  refine gr_istore [(5, .int s0), (0, .ref (gx_ad x k)), (1, .int x1), (2, .int x2), (3, .int x3), (4, .int x4)] X dX5_refusal_43 rfl (by decide) rfl ?_
  refine gr_iload X dX5_refusal_45 5 rfl ?_
  refine gr_if_eq 55 X dX5_refusal_47 (by decide) (fun h1 => ?_) (fun h1 => ?_)
  · rw [if_pos h1] at hf
    refine gr_iconst (-1) X dX5_refusal_55 (by decide) ?_
    exact gz_EIu hE hf rfl dX5_refusal_56
  · rw [if_neg h1] at hf
    refine gr_iload X dX5_refusal_50 0 rfl ?_
    refine gr_if_ne 57 X dX5_refusal_52 (by decide) (fun h2 => ?_) (fun h2 => ?_)
    · rw [if_pos h2] at hf
      refine gr_iconst (-1) X dX5_refusal_55 (by decide) ?_
      exact gz_EIu hE hf rfl dX5_refusal_56
    · rw [if_neg h2] at hf
      refine gr_iload_n X dX5_refusal_57 2 rfl rfl ?_
      refine gr_if_ne 73 X dX5_refusal_58 (by decide) (fun h3 => ?_) (fun h3 => ?_)
      · rw [if_pos h3] at hf
        refine gr_aload_n X dX5_refusal_61 1 rfl rfl ?_
        refine gr_iload_n X dX5_refusal_62 3 rfl rfl ?_
        obtain ⟨v4, M5, q6, hf⟩ := gz_bd2e hf
        refine gr_callI (asF := fun ad => [.ref (ad k), .int x2]) [.int x2] X (c5_get hk q6) rfl wm_RX5_40 rfl (X.kd (gk_X5o hk)).1 ((X.kd (gk_X5o hk)).2 _ _ _ _) rfl (by decide) (by decide) rfl (Nat.le_of_ble_eq_true rfl) hc dX5_refusal_63 ?_
        refine gr_iload_n X dX5_refusal_66 4 rfl rfl ?_
        refine gr_icmp_ne 73 X dX5_refusal_67 (by decide) (fun h7 => ?_) (fun h7 => ?_)
        · rw [if_pos h7] at hf
          refine gr_bipush (-2) X dX5_refusal_70 (by decide) ?_
          exact gz_EIu hE hf rfl dX5_refusal_72
        · rw [if_neg h7] at hf
          refine gr_sub (lv' := [(0, .ref (gx_ad x k)), (1, .int x1)]) [1, 2] rfl ?_
          exact b5_refusal_73 X hc hE hk _ _ hf
      · rw [if_neg h3] at hf
        refine gr_sub (lv' := [(0, .ref (gx_ad x k)), (1, .int x1)]) [1, 2] rfl ?_
        exact b5_refusal_73 X hc hE hk _ _ hf

def f5_refusal_26 (k : Nat) (x1 : Int32) (x2 : Int32) (x3 : Int32) (s0 : Int32) (M0 : gz_M) : Option (Int32 × gz_M) := if x3 < 0 then (f5_refusal_43 k x1 x2 x3 s0 0 M0) else (if 8 ≤ x3 then (f5_refusal_43 k x1 x2 x3 s0 0 M0) else (f5_refusal_43 k x1 x2 x3 s0 1 M0))
theorem b5_refusal_26 {x : gz_X} {pf : Nat → Bool} {l : Launch} {r : Int32} {M' : gz_M} (X : gz_Ok x cX5_refusal RX5 6 2 gz_cfC pf l) (hc : gx_cells x ≤ (gx_R x).cells ∧ gx_slots x ≤ (gx_R x).slots) (hE : gz_EI x cX5_refusal .int r M') {k : Nat} (hk : gz_IsX5 pf k) : ∀ (x1 : Int32) (x2 : Int32) (x3 : Int32) (s0 : Int32) (M0 : gz_M), f5_refusal_26 k x1 x2 x3 s0 M0 = some (r, M') → gz_At x 26 [(0, .ref (gx_ad x k)), (1, .int x1), (2, .int x2), (3, .int x3)] [.int s0] M0 := by
  intro x1 x2 x3 s0 M0  hf
  rw [f5_refusal_26] at hf
  refine gr_istore [(4, .int s0), (0, .ref (gx_ad x k)), (1, .int x1), (2, .int x2), (3, .int x3)] X dX5_refusal_26 rfl (by decide) rfl ?_
  refine gr_iload_n X dX5_refusal_28 4 rfl rfl ?_
  refine gr_if_lt 42 X dX5_refusal_29 (by decide) (fun h1 => ?_) (fun h1 => ?_)
  · rw [if_pos h1] at hf
    refine gr_iconst 0 X dX5_refusal_42 (by decide) ?_
    refine gr_sub (lv' := [(0, .ref (gx_ad x k)), (1, .int x1), (2, .int x2), (3, .int x3), (4, .int s0)]) [1, 2, 3, 4, 0] rfl ?_
    exact b5_refusal_43 X hc hE hk _ _ _ _ _ _ hf
  · rw [if_neg h1] at hf
    refine gr_iload_n X dX5_refusal_32 4 rfl rfl ?_
    refine gr_bipush 8 X dX5_refusal_33 (by decide) ?_
    refine gr_icmp_ge 42 X dX5_refusal_35 (by decide) (fun h2 => ?_) (fun h2 => ?_)
    · rw [if_pos h2] at hf
      refine gr_iconst 0 X dX5_refusal_42 (by decide) ?_
      refine gr_sub (lv' := [(0, .ref (gx_ad x k)), (1, .int x1), (2, .int x2), (3, .int x3), (4, .int s0)]) [1, 2, 3, 4, 0] rfl ?_
      exact b5_refusal_43 X hc hE hk _ _ _ _ _ _ hf
    · rw [if_neg h2] at hf
      refine gr_iconst 1 X dX5_refusal_38 (by decide) ?_
      refine gr_goto 43 X dX5_refusal_39 (by decide) ?_
      refine gr_sub (lv' := [(0, .ref (gx_ad x k)), (1, .int x1), (2, .int x2), (3, .int x3), (4, .int s0)]) [1, 2, 3, 4, 0] rfl ?_
      exact b5_refusal_43 X hc hE hk _ _ _ _ _ _ hf

def f5_refusal (k : Nat) (a0 : Int32) (a1 : Int32) (a2 : Int32) (M0 : gz_M) : Option (Int32 × gz_M) := gz_bd2 (f5_has k a1 M0) fun v1 M2 => if v1 = 0 then (if a0 = 1 then (if a1 = (M2.1 k 1) then (f5_refusal_26 k a0 a1 a2 1 M2) else (f5_refusal_26 k a0 a1 a2 0 M2)) else (f5_refusal_26 k a0 a1 a2 0 M2)) else (f5_refusal_26 k a0 a1 a2 1 M2)
set_option maxRecDepth 100000 in
theorem c5_refusal {pf : Nat → Bool} {l : Launch} {r : Int32} {M0 M' : gz_M} {k : Nat} {a0 : Int32} {a1 : Int32} {a2 : Int32} (hk : gz_IsX5 pf k) (hf : f5_refusal k a0 a1 a2 M0 = some (r, M')) : gz_CI l gz_cfC yX5_refusal cX5_refusal 6 2 .int (fun ad => [.ref (ad k), .int a0, .int a1, .int a2]) pf M0 r M' := by
  refine gz_ofI (by decide +kernel) (fun _ => Nat.le_of_ble_eq_true rfl) (fun x X hc hE => ?_)
  show gz_At x 0 [(0, .ref (gx_ad x k)), (1, .int a0), (2, .int a1), (3, .int a2)] [] M0
  unfold f5_refusal at hf
  refine gr_aload_n X dX5_refusal_0 0 rfl rfl ?_
  refine gr_iload_n X dX5_refusal_1 2 rfl rfl ?_
  obtain ⟨v1, M2, q3, hf⟩ := gz_bd2e hf
  refine gr_callI (asF := fun ad => [.ref (ad k), .int a1]) [.int a1] X (c5_has hk q3) rfl wm_RX5_36 rfl (X.kd (gk_X5o hk)).1 ((X.kd (gk_X5o hk)).2 _ _ _ _) rfl (by decide) (by decide) rfl (Nat.le_of_ble_eq_true rfl) hc dX5_refusal_2 ?_
  refine gr_if_ne 21 X dX5_refusal_5 (by decide) (fun h4 => ?_) (fun h4 => ?_)
  · rw [if_pos h4] at hf
    refine gr_iload_n X dX5_refusal_8 1 rfl rfl ?_
    refine gr_iconst 1 X dX5_refusal_9 (by decide) ?_
    refine gr_icmp_ne 25 X dX5_refusal_10 (by decide) (fun h5 => ?_) (fun h5 => ?_)
    · rw [if_pos h5] at hf
      refine gr_iload_n X dX5_refusal_13 2 rfl rfl ?_
      refine gr_aload_n X dX5_refusal_14 0 rfl rfl ?_
      refine gf5_1 X (gk_X5o hk) wf_RX5_15 dX5_refusal_15 ?_
      refine gr_icmp_ne 25 X dX5_refusal_18 (by decide) (fun h6 => ?_) (fun h6 => ?_)
      · rw [if_pos h6] at hf
        refine gr_iconst 1 X dX5_refusal_21 (by decide) ?_
        refine gr_goto 26 X dX5_refusal_22 (by decide) ?_
        exact b5_refusal_26 X hc hE hk _ _ _ _ _ hf
      · rw [if_neg h6] at hf
        refine gr_iconst 0 X dX5_refusal_25 (by decide) ?_
        exact b5_refusal_26 X hc hE hk _ _ _ _ _ hf
    · rw [if_neg h5] at hf
      refine gr_iconst 0 X dX5_refusal_25 (by decide) ?_
      exact b5_refusal_26 X hc hE hk _ _ _ _ _ hf
  · rw [if_neg h4] at hf
    refine gr_iconst 1 X dX5_refusal_21 (by decide) ?_
    refine gr_goto 26 X dX5_refusal_22 (by decide) ?_
    exact b5_refusal_26 X hc hE hk _ _ _ _ _ hf

def f5_put (k : Nat) (a0 : Int32) (a1 : Int32) (M0 : gz_M) : Option (gz_M) := if a0 < 0 then (some M0) else (if (M0.1 k 1) ≤ a0 then (some M0) else (if 24 ≤ a0 then (some M0) else (gz_ck (gz_inb a0 24) <| gz_lt (gz_w M0 (k + 1) a0.toNatClampNeg a1) fun M5 => some M5)))
set_option maxRecDepth 100000 in
theorem c5_put {pf : Nat → Bool} {l : Launch} {M0 M' : gz_M} {k : Nat} {a0 : Int32} {a1 : Int32} (hk : gz_IsX5 pf k) (hf : f5_put k a0 a1 M0 = some M') : gz_CV l gz_cfC yX5_put cX5_put 3 1 (fun ad => [.ref (ad k), .int a0, .int a1]) pf M0 M' := by
  refine gz_ofV (by decide +kernel) (fun _ => Nat.le_of_ble_eq_true rfl) (fun x X hc hE => ?_)
  show gz_At x 0 [(0, .ref (gx_ad x k)), (1, .int a0), (2, .int a1)] [] M0
  unfold f5_put at hf
  refine gr_iload_n X dX5_put_0 1 rfl rfl ?_
  refine gr_if_lt 25 X dX5_put_1 (by decide) (fun h1 => ?_) (fun h1 => ?_)
  · rw [if_pos h1] at hf
    exact gz_EVu hE hf dX5_put_25
  · rw [if_neg h1] at hf
    refine gr_iload_n X dX5_put_4 1 rfl rfl ?_
    refine gr_aload_n X dX5_put_5 0 rfl rfl ?_
    refine gf5_1 X (gk_X5o hk) wf_RX5_15 dX5_put_6 ?_
    refine gr_icmp_ge 25 X dX5_put_9 (by decide) (fun h2 => ?_) (fun h2 => ?_)
    · rw [if_pos h2] at hf
      exact gz_EVu hE hf dX5_put_25
    · rw [if_neg h2] at hf
      refine gr_iload_n X dX5_put_12 1 rfl rfl ?_
      refine gr_bipush 24 X dX5_put_13 (by decide) ?_
      refine gr_icmp_ge 25 X dX5_put_15 (by decide) (fun h3 => ?_) (fun h3 => ?_)
      · rw [if_pos h3] at hf
        exact gz_EVu hE hf dX5_put_25
      · rw [if_neg h3] at hf
        refine gr_aload_n X dX5_put_18 0 rfl rfl ?_
        refine gf5_0 X (gk_X5o hk) wf_RX5_9 dX5_put_19 ?_
        refine gr_iload_n X dX5_put_22 1 rfl rfl ?_
        refine gr_iload_n X dX5_put_23 2 rfl rfl ?_
        obtain ⟨h4, hf⟩ := gz_cke hf
        obtain ⟨M5, eM5, hf⟩ := gz_lte hf
        refine gr_iastore X (gk_X51 hk) (gz_inp h4) eM5 dX5_put_24 ?_
        exact gz_EVu hE hf dX5_put_25

def f5_remove_24 (k : Nat) : Nat → Int32 → gz_M → Option (gz_M)
  | 0, _, _ => none
  | n + 1, x2, M0 => if ((M0.1 k 1) - 1) ≤ x2 then (gz_lt (gz_w M0 k 1 ((M0.1 k 1) - 1)) fun M2 => some M2) else (gz_ck (gz_inb (x2 + 1) 24) <| gz_ck (gz_inb x2 24) <| gz_lt (gz_w M0 (k + 1) x2.toNatClampNeg (M0.1 (k + 1) (x2 + 1).toNatClampNeg)) fun M5 => gz_lt (x2 + 1) fun v6 => f5_remove_24 k n v6 M5)
theorem b5_remove_24 {x : gz_X} {pf : Nat → Bool} {l : Launch} {M' : gz_M} (X : gz_Ok x cX5_remove RX5 3 1 gz_cfC pf l) (hc : gx_cells x ≤ (gx_R x).cells ∧ gx_slots x ≤ (gx_R x).slots) (hE : gz_EV x cX5_remove M') {k : Nat} (hk : gz_IsX5 pf k) : ∀ (n : Nat) (x2 : Int32) (M0 : gz_M), f5_remove_24 k n x2 M0 = some M' → gz_At x 24 [(0, .ref (gx_ad x k)), (2, .int x2)] [] M0 := by
  intro n
  induction n with
  | zero =>
    intro x2 M0  hf
    rw [f5_remove_24] at hf
    cases hf
  | succ n ih =>
    intro x2 M0  hf
    rw [f5_remove_24] at hf
    refine gr_iload_n X dX5_remove_24 1 rfl rfl ?_
    refine gr_aload_n X dX5_remove_25 0 rfl rfl ?_
    refine gf5_1 X (gk_X5o hk) wf_RX5_15 dX5_remove_26 ?_
    refine gr_iconst 1 X dX5_remove_29 (by decide) ?_
    refine gr_isub X dX5_remove_30 ?_
    refine gr_icmp_ge 54 X dX5_remove_31 (by decide) (fun h1 => ?_) (fun h1 => ?_)
    · rw [if_pos h1] at hf
      refine gr_aload_n X dX5_remove_54 0 rfl rfl ?_
      refine gr_dup X dX5_remove_55 rfl ?_
      refine gf5_1 X (gk_X5o hk) wf_RX5_15 dX5_remove_56 ?_
      refine gr_iconst 1 X dX5_remove_59 (by decide) ?_
      refine gr_isub X dX5_remove_60 ?_
      obtain ⟨M2, eM2, hf⟩ := gz_lte hf
      refine gp5_1 X (gk_X5o hk) wf_RX5_15 eM2 dX5_remove_61 ?_
      exact gz_EVu hE hf dX5_remove_64
    · rw [if_neg h1] at hf
      refine gr_aload_n X dX5_remove_34 0 rfl rfl ?_
      refine gf5_0 X (gk_X5o hk) wf_RX5_9 dX5_remove_35 ?_
      refine gr_iload_n X dX5_remove_38 1 rfl rfl ?_
      refine gr_aload_n X dX5_remove_39 0 rfl rfl ?_
      refine gf5_0 X (gk_X5o hk) wf_RX5_9 dX5_remove_40 ?_
      refine gr_iload_n X dX5_remove_43 1 rfl rfl ?_
      refine gr_iconst 1 X dX5_remove_44 (by decide) ?_
      refine gr_iadd X dX5_remove_45 ?_
      obtain ⟨h3, hf⟩ := gz_cke hf
      refine gr_iaload X (gk_X51 hk) (gz_inp h3) dX5_remove_46 ?_
      obtain ⟨h4, hf⟩ := gz_cke hf
      obtain ⟨M5, eM5, hf⟩ := gz_lte hf
      refine gr_iastore X (gk_X51 hk) (gz_inp h4) eM5 dX5_remove_47 ?_
      obtain ⟨v6, ev6, hf⟩ := gz_lte hf
      refine gr_iinc 1 [(2, .int v6), (0, .ref (gx_ad x k))] X dX5_remove_48 1 rfl (by decide) ev6 (by decide) rfl ?_
      refine gr_goto 24 X dX5_remove_51 (by decide) ?_
      refine gr_sub (lv' := [(0, .ref (gx_ad x k)), (2, .int v6)]) [1, 0] rfl ?_
      exact ih _ _ hf

def f5_remove (k : Nat) (a0 : Int32) (M0 : gz_M) : Option (gz_M) := if a0 < 0 then (some M0) else (if (M0.1 k 1) ≤ a0 then (some M0) else (if (M0.1 k 1) ≤ 24 then (f5_remove_24 k gz_FU a0 M0) else (some M0)))
set_option maxRecDepth 100000 in
theorem c5_remove {pf : Nat → Bool} {l : Launch} {M0 M' : gz_M} {k : Nat} {a0 : Int32} (hk : gz_IsX5 pf k) (hf : f5_remove k a0 M0 = some M') : gz_CV l gz_cfC yX5_remove cX5_remove 3 1 (fun ad => [.ref (ad k), .int a0]) pf M0 M' := by
  refine gz_ofV (by decide +kernel) (fun _ => Nat.le_of_ble_eq_true rfl) (fun x X hc hE => ?_)
  show gz_At x 0 [(0, .ref (gx_ad x k)), (1, .int a0)] [] M0
  unfold f5_remove at hf
  refine gr_iload_n X dX5_remove_0 1 rfl rfl ?_
  refine gr_if_lt 21 X dX5_remove_1 (by decide) (fun h1 => ?_) (fun h1 => ?_)
  · rw [if_pos h1] at hf
    exact gz_EVu hE hf dX5_remove_21
  · rw [if_neg h1] at hf
    refine gr_iload_n X dX5_remove_4 1 rfl rfl ?_
    refine gr_aload_n X dX5_remove_5 0 rfl rfl ?_
    refine gf5_1 X (gk_X5o hk) wf_RX5_15 dX5_remove_6 ?_
    refine gr_icmp_ge 21 X dX5_remove_9 (by decide) (fun h2 => ?_) (fun h2 => ?_)
    · rw [if_pos h2] at hf
      exact gz_EVu hE hf dX5_remove_21
    · rw [if_neg h2] at hf
      refine gr_aload_n X dX5_remove_12 0 rfl rfl ?_
      refine gf5_1 X (gk_X5o hk) wf_RX5_15 dX5_remove_13 ?_
      refine gr_bipush 24 X dX5_remove_16 (by decide) ?_
      refine gr_icmp_le 22 X dX5_remove_18 (by decide) (fun h3 => ?_) (fun h3 => ?_)
      · rw [if_pos h3] at hf
        refine gr_iload_n X dX5_remove_22 1 rfl rfl ?_
        refine gr_istore_n [(2, .int a0), (0, .ref (gx_ad x k)), (1, .int a0)] X dX5_remove_23 rfl rfl (by decide) rfl ?_
        refine gr_sub (lv' := [(0, .ref (gx_ad x k)), (2, .int a0)]) [1, 0] rfl ?_
        exact b5_remove_24 X hc hE hk _ _ _ hf
      · rw [if_neg h3] at hf
        exact gz_EVu hE hf dX5_remove_21

def f5_change (k : Nat) (a0 : Int32) (a1 : Int32) (a2 : Int32) (M0 : gz_M) : Option (gz_M) := gz_bd2 (f5_refusal k a0 a1 a2 M0) fun v1 M2 => if 0 ≤ v1 then (if a0 = 0 then (gz_bd (f5_put k a1 a2 M2) fun M6 => some M6) else (if a0 = 1 then (gz_bd (f5_insert k a1 a2 M2) fun M9 => some M9) else (gz_bd (f5_remove k a1 M2) fun M11 => some M11))) else (some M2)
set_option maxRecDepth 100000 in
theorem c5_change {pf : Nat → Bool} {l : Launch} {M0 M' : gz_M} {k : Nat} {a0 : Int32} {a1 : Int32} {a2 : Int32} (hk : gz_IsX5 pf k) (hf : f5_change k a0 a1 a2 M0 = some M') : gz_CV l gz_cfC yX5_change cX5_change 4 3 (fun ad => [.ref (ad k), .int a0, .int a1, .int a2]) pf M0 M' := by
  refine gz_ofV (by decide +kernel) (fun _ => Nat.le_of_ble_eq_true rfl) (fun x X hc hE => ?_)
  show gz_At x 0 [(0, .ref (gx_ad x k)), (1, .int a0), (2, .int a1), (3, .int a2)] [] M0
  unfold f5_change at hf
  refine gr_aload_n X dX5_change_0 0 rfl rfl ?_
  refine gr_iload_n X dX5_change_1 1 rfl rfl ?_
  refine gr_iload_n X dX5_change_2 2 rfl rfl ?_
  refine gr_iload_n X dX5_change_3 3 rfl rfl ?_
  obtain ⟨v1, M2, q3, hf⟩ := gz_bd2e hf
  refine gr_callI (asF := fun ad => [.ref (ad k), .int a0, .int a1, .int a2]) [.int a0, .int a1, .int a2] X (c5_refusal hk q3) rfl wm_RX5_41 rfl (X.kd (gk_X5o hk)).1 ((X.kd (gk_X5o hk)).2 _ _ _ _) rfl (by decide) (by decide) rfl (Nat.le_of_ble_eq_true rfl) hc dX5_change_4 ?_
  refine gr_if_ge 11 X dX5_change_7 (by decide) (fun h4 => ?_) (fun h4 => ?_)
  · rw [if_pos h4] at hf
    refine gr_iload_n X dX5_change_11 1 rfl rfl ?_
    refine gr_if_ne 24 X dX5_change_12 (by decide) (fun h5 => ?_) (fun h5 => ?_)
    · rw [if_pos h5] at hf
      refine gr_aload_n X dX5_change_15 0 rfl rfl ?_
      refine gr_iload_n X dX5_change_16 2 rfl rfl ?_
      refine gr_iload_n X dX5_change_17 3 rfl rfl ?_
      obtain ⟨M6, q7, hf⟩ := gz_bde hf
      refine gr_callV (asF := fun ad => [.ref (ad k), .int a1, .int a2]) [.int a1, .int a2] X (c5_put hk q7) rfl wm_RX5_45 rfl (X.kd (gk_X5o hk)).1 ((X.kd (gk_X5o hk)).2 _ _ _ _) rfl (by decide) (by decide) rfl (Nat.le_of_ble_eq_true rfl) hc dX5_change_18 ?_
      refine gr_goto 43 X dX5_change_21 (by decide) ?_
      exact gz_EVu hE hf dX5_change_43
    · rw [if_neg h5] at hf
      refine gr_iload_n X dX5_change_24 1 rfl rfl ?_
      refine gr_iconst 1 X dX5_change_25 (by decide) ?_
      refine gr_icmp_ne 38 X dX5_change_26 (by decide) (fun h8 => ?_) (fun h8 => ?_)
      · rw [if_pos h8] at hf
        refine gr_aload_n X dX5_change_29 0 rfl rfl ?_
        refine gr_iload_n X dX5_change_30 2 rfl rfl ?_
        refine gr_iload_n X dX5_change_31 3 rfl rfl ?_
        obtain ⟨M9, q10, hf⟩ := gz_bde hf
        refine gr_callV (asF := fun ad => [.ref (ad k), .int a1, .int a2]) [.int a1, .int a2] X (c5_insert hk q10) rfl wm_RX5_32 rfl (X.kd (gk_X5o hk)).1 ((X.kd (gk_X5o hk)).2 _ _ _ _) rfl (by decide) (by decide) rfl (Nat.le_of_ble_eq_true rfl) hc dX5_change_32 ?_
        refine gr_goto 43 X dX5_change_35 (by decide) ?_
        exact gz_EVu hE hf dX5_change_43
      · rw [if_neg h8] at hf
        refine gr_aload_n X dX5_change_38 0 rfl rfl ?_
        refine gr_iload_n X dX5_change_39 2 rfl rfl ?_
        obtain ⟨M11, q12, hf⟩ := gz_bde hf
        refine gr_callV (asF := fun ad => [.ref (ad k), .int a1]) [.int a1] X (c5_remove hk q12) rfl wm_RX5_48 rfl (X.kd (gk_X5o hk)).1 ((X.kd (gk_X5o hk)).2 _ _ _ _) rfl (by decide) (by decide) rfl (Nat.le_of_ble_eq_true rfl) hc dX5_change_40 ?_
        exact gz_EVu hE hf dX5_change_43
  · rw [if_neg h4] at hf
    exact gz_EVu hE hf dX5_change_10

def f3_dueInNextRule (M0 : gz_M) : Option (Int32 × gz_M) := gz_lt (gz_w M0 3 1 ((M0.1 3 1) + 1)) fun M1 => if 8 ≤ (M1.1 3 1) then (some ((-1), M1)) else (some (0, M1))
set_option maxRecDepth 100000 in
theorem c3_dueInNextRule {pf : Nat → Bool} {l : Launch} {r : Int32} {M0 M' : gz_M} (hf : f3_dueInNextRule M0 = some (r, M')) : gz_CI l gz_cfC yX3_dueInNextRule cX3_dueInNextRule 1 1 .int (fun ad => [.ref (ad 3)]) pf M0 r M' := by
  refine gz_ofI (by decide +kernel) (fun _ => Nat.le_of_ble_eq_true rfl) (fun x X hc hE => ?_)
  show gz_At x 0 [(0, .ref (gx_ad x 3))] [] M0
  unfold f3_dueInNextRule at hf
  refine gr_aload_n X dX3_dueInNextRule_0 0 rfl rfl ?_
  refine gr_dup X dX3_dueInNextRule_1 rfl ?_
  refine gf3_1 X wf_RX3_15 dX3_dueInNextRule_2 ?_
  refine gr_iconst 1 X dX3_dueInNextRule_5 (by decide) ?_
  refine gr_iadd X dX3_dueInNextRule_6 ?_
  obtain ⟨M1, eM1, hf⟩ := gz_lte hf
  refine gp3_1 X wf_RX3_15 eM1 dX3_dueInNextRule_7 ?_
  refine gr_aload_n X dX3_dueInNextRule_10 0 rfl rfl ?_
  refine gf3_1 X wf_RX3_15 dX3_dueInNextRule_11 ?_
  refine gr_bipush 8 X dX3_dueInNextRule_14 (by decide) ?_
  refine gr_icmp_ge 23 X dX3_dueInNextRule_16 (by decide) (fun h2 => ?_) (fun h2 => ?_)
  · rw [if_pos h2] at hf
    refine gr_iconst (-1) X dX3_dueInNextRule_23 (by decide) ?_
    exact gz_EIu hE hf rfl dX3_dueInNextRule_24
  · rw [if_neg h2] at hf
    refine gr_iconst 0 X dX3_dueInNextRule_19 (by decide) ?_
    refine gr_goto 24 X dX3_dueInNextRule_20 (by decide) ?_
    exact gz_EIu hE hf rfl dX3_dueInNextRule_24

def f3_isSign (a0 : Int32) (M0 : gz_M) : Option (Int32 × gz_M) := if a0 < 97 then (some (0, M0)) else (if 104 < a0 then (some (0, M0)) else (some (1, M0)))
set_option maxRecDepth 100000 in
theorem c3_isSign {pf : Nat → Bool} {l : Launch} {r : Int32} {M0 M' : gz_M} {a0 : Int32} (hf : f3_isSign a0 M0 = some (r, M')) : gz_CI l gz_cfC yX3_isSign cX3_isSign 1 1 .boolean (fun _ => [.int a0]) pf M0 r M' := by
  refine gz_ofI (by decide +kernel) (fun _ => Nat.le_of_ble_eq_true rfl) (fun x X hc hE => ?_)
  show gz_At x 0 [(0, .int a0)] [] M0
  unfold f3_isSign at hf
  refine gr_iload_n X dX3_isSign_0 0 rfl rfl ?_
  refine gr_bipush 97 X dX3_isSign_1 (by decide) ?_
  refine gr_icmp_lt 16 X dX3_isSign_3 (by decide) (fun h1 => ?_) (fun h1 => ?_)
  · rw [if_pos h1] at hf
    refine gr_iconst 0 X dX3_isSign_16 (by decide) ?_
    exact gz_EIu hE hf rfl dX3_isSign_17
  · rw [if_neg h1] at hf
    refine gr_iload_n X dX3_isSign_6 0 rfl rfl ?_
    refine gr_bipush 104 X dX3_isSign_7 (by decide) ?_
    refine gr_icmp_gt 16 X dX3_isSign_9 (by decide) (fun h2 => ?_) (fun h2 => ?_)
    · rw [if_pos h2] at hf
      refine gr_iconst 0 X dX3_isSign_16 (by decide) ?_
      exact gz_EIu hE hf rfl dX3_isSign_17
    · rw [if_neg h2] at hf
      refine gr_iconst 1 X dX3_isSign_12 (by decide) ?_
      refine gr_goto 17 X dX3_isSign_13 (by decide) ?_
      exact gz_EIu hE hf rfl dX3_isSign_17

def f3_isLetter (a0 : Int32) (M0 : gz_M) : Option (Int32 × gz_M) := if a0 = 46 then (some (1, M0)) else (gz_bd2 (f3_isSign a0 M0) fun v2 M3 => if v2 = 0 then (some (0, M3)) else (some (1, M3)))
set_option maxRecDepth 100000 in
theorem c3_isLetter {pf : Nat → Bool} {l : Launch} {r : Int32} {M0 M' : gz_M} {a0 : Int32} (hf : f3_isLetter a0 M0 = some (r, M')) : gz_CI l gz_cfC yX3_isLetter cX3_isLetter 1 2 .boolean (fun _ => [.int a0]) pf M0 r M' := by
  refine gz_ofI (by decide +kernel) (fun _ => Nat.le_of_ble_eq_true rfl) (fun x X hc hE => ?_)
  show gz_At x 0 [(0, .int a0)] [] M0
  unfold f3_isLetter at hf
  refine gr_iload_n X dX3_isLetter_0 0 rfl rfl ?_
  refine gr_bipush 46 X dX3_isLetter_1 (by decide) ?_
  refine gr_icmp_eq 13 X dX3_isLetter_3 (by decide) (fun h1 => ?_) (fun h1 => ?_)
  · rw [if_pos h1] at hf
    refine gr_iconst 1 X dX3_isLetter_13 (by decide) ?_
    refine gr_goto 18 X dX3_isLetter_14 (by decide) ?_
    exact gz_EIu hE hf rfl dX3_isLetter_18
  · rw [if_neg h1] at hf
    refine gr_iload_n X dX3_isLetter_6 0 rfl rfl ?_
    obtain ⟨v2, M3, q4, hf⟩ := gz_bd2e hf
    refine gr_callSI (asF := fun _ => [.int a0]) [.int a0] X (c3_isSign q4) rfl wm_RX3_35 rfl (by decide) (by decide) rfl (Nat.le_of_ble_eq_true rfl) hc dX3_isLetter_7 ?_
    refine gr_if_eq 17 X dX3_isLetter_10 (by decide) (fun h5 => ?_) (fun h5 => ?_)
    · rw [if_pos h5] at hf
      refine gr_iconst 0 X dX3_isLetter_17 (by decide) ?_
      exact gz_EIu hE hf rfl dX3_isLetter_18
    · rw [if_neg h5] at hf
      refine gr_iconst 1 X dX3_isLetter_13 (by decide) ?_
      refine gr_goto 18 X dX3_isLetter_14 (by decide) ?_
      exact gz_EIu hE hf rfl dX3_isLetter_18

def f3_dueInPart (a0 : Int32) (M0 : gz_M) : Option (Int32 × gz_M) := gz_bd2 (f3_isLetter a0 M0) fun v1 M2 => if v1 = 0 then (if a0 = 40 then (if (M2.1 3 0) < 6 then (gz_lt (gz_w M2 3 0 ((M2.1 3 0) + 1)) fun M7 => some (2, M7)) else (some ((-1), M2))) else (some ((-1), M2))) else (some (3, M2))
set_option maxRecDepth 100000 in
theorem c3_dueInPart {pf : Nat → Bool} {l : Launch} {r : Int32} {M0 M' : gz_M} {a0 : Int32} (hf : f3_dueInPart a0 M0 = some (r, M')) : gz_CI l gz_cfC yX3_dueInPart cX3_dueInPart 2 3 .int (fun ad => [.ref (ad 3), .int a0]) pf M0 r M' := by
  refine gz_ofI (by decide +kernel) (fun _ => Nat.le_of_ble_eq_true rfl) (fun x X hc hE => ?_)
  show gz_At x 0 [(0, .ref (gx_ad x 3)), (1, .int a0)] [] M0
  unfold f3_dueInPart at hf
  refine gr_iload_n X dX3_dueInPart_0 1 rfl rfl ?_
  obtain ⟨v1, M2, q3, hf⟩ := gz_bd2e hf
  refine gr_callSI (asF := fun _ => [.int a0]) [.int a0] X (c3_isLetter q3) rfl wm_RX3_58 rfl (by decide) (by decide) rfl (Nat.le_of_ble_eq_true rfl) hc dX3_dueInPart_1 ?_
  refine gr_if_eq 9 X dX3_dueInPart_4 (by decide) (fun h4 => ?_) (fun h4 => ?_)
  · rw [if_pos h4] at hf
    refine gr_iload_n X dX3_dueInPart_9 1 rfl rfl ?_
    refine gr_bipush 40 X dX3_dueInPart_10 (by decide) ?_
    refine gr_icmp_ne 24 X dX3_dueInPart_12 (by decide) (fun h5 => ?_) (fun h5 => ?_)
    · rw [if_pos h5] at hf
      refine gr_aload_n X dX3_dueInPart_15 0 rfl rfl ?_
      refine gf3_0 X wf_RX3_9 dX3_dueInPart_16 ?_
      refine gr_bipush 6 X dX3_dueInPart_19 (by decide) ?_
      refine gr_icmp_lt 26 X dX3_dueInPart_21 (by decide) (fun h6 => ?_) (fun h6 => ?_)
      · rw [if_pos h6] at hf
        refine gr_aload_n X dX3_dueInPart_26 0 rfl rfl ?_
        refine gr_dup X dX3_dueInPart_27 rfl ?_
        refine gf3_0 X wf_RX3_9 dX3_dueInPart_28 ?_
        refine gr_iconst 1 X dX3_dueInPart_31 (by decide) ?_
        refine gr_iadd X dX3_dueInPart_32 ?_
        obtain ⟨M7, eM7, hf⟩ := gz_lte hf
        refine gp3_0 X wf_RX3_9 eM7 dX3_dueInPart_33 ?_
        refine gr_iconst 2 X dX3_dueInPart_36 (by decide) ?_
        exact gz_EIu hE hf rfl dX3_dueInPart_37
      · rw [if_neg h6] at hf
        refine gr_iconst (-1) X dX3_dueInPart_24 (by decide) ?_
        exact gz_EIu hE hf rfl dX3_dueInPart_25
    · rw [if_neg h5] at hf
      refine gr_iconst (-1) X dX3_dueInPart_24 (by decide) ?_
      exact gz_EIu hE hf rfl dX3_dueInPart_25
  · rw [if_neg h4] at hf
    refine gr_iconst 3 X dX3_dueInPart_7 (by decide) ?_
    exact gz_EIu hE hf rfl dX3_dueInPart_8

def f3_dueBehindPart_13 (x1 : Int32) (M0 : gz_M) : Option (Int32 × gz_M) := gz_bd2 (f3_dueInPart x1 M0) fun v1 M2 => some (v1, M2)
theorem b3_dueBehindPart_13 {x : gz_X} {pf : Nat → Bool} {l : Launch} {r : Int32} {M' : gz_M} (X : gz_Ok x cX3_dueBehindPart RX3 2 4 gz_cfC pf l) (hc : gx_cells x ≤ (gx_R x).cells ∧ gx_slots x ≤ (gx_R x).slots) (hE : gz_EI x cX3_dueBehindPart .int r M') : ∀ (x1 : Int32) (M0 : gz_M), f3_dueBehindPart_13 x1 M0 = some (r, M') → gz_At x 13 [(0, .ref (gx_ad x 3)), (1, .int x1)] [] M0 := by
  intro x1 M0  hf
  rw [f3_dueBehindPart_13] at hf
  refine gr_aload_n X dX3_dueBehindPart_13 0 rfl rfl ?_
  refine gr_iload_n X dX3_dueBehindPart_14 1 rfl rfl ?_
  obtain ⟨v1, M2, q3, hf⟩ := gz_bd2e hf
  refine gr_callI (asF := fun ad => [.ref (ad 3), .int x1]) [.int x1] X (c3_dueInPart q3) rfl wm_RX3_48 rfl (X.kd gk_C3).1 ((X.kd gk_C3).2 _ _ _ _) rfl (by decide) (by decide) rfl (Nat.le_of_ble_eq_true rfl) hc dX3_dueBehindPart_15 ?_
  exact gz_EIu hE hf rfl dX3_dueBehindPart_18

def f3_dueBehindPart_144 (M0 : gz_M) : Option (Int32 × gz_M) := if (M0.1 3 0) = 0 then (some (4, M0)) else (some ((-1), M0))
theorem b3_dueBehindPart_144 {x : gz_X} {pf : Nat → Bool} {l : Launch} {r : Int32} {M' : gz_M} (X : gz_Ok x cX3_dueBehindPart RX3 2 4 gz_cfC pf l) (hc : gx_cells x ≤ (gx_R x).cells ∧ gx_slots x ≤ (gx_R x).slots) (hE : gz_EI x cX3_dueBehindPart .int r M') : ∀ (M0 : gz_M), f3_dueBehindPart_144 M0 = some (r, M') → gz_At x 144 [(0, .ref (gx_ad x 3))] [] M0 := by
  intro  M0  hf
  rw [f3_dueBehindPart_144] at hf
  refine gr_aload_n X dX3_dueBehindPart_144 0 rfl rfl ?_
  refine gf3_0 X wf_RX3_9 dX3_dueBehindPart_145 ?_
  refine gr_if_ne 155 X dX3_dueBehindPart_148 (by decide) (fun h1 => ?_) (fun h1 => ?_)
  · rw [if_pos h1] at hf
    refine gr_iconst 4 X dX3_dueBehindPart_151 (by decide) ?_
    refine gr_goto 156 X dX3_dueBehindPart_152 (by decide) ?_
    exact gz_EIu hE hf rfl dX3_dueBehindPart_156
  · rw [if_neg h1] at hf
    refine gr_iconst (-1) X dX3_dueBehindPart_155 (by decide) ?_
    exact gz_EIu hE hf rfl dX3_dueBehindPart_156

def f3_dueBehindPart (a0 : Int32) (M0 : gz_M) : Option (Int32 × gz_M) := gz_bd2 (f3_isLetter a0 M0) fun v1 M2 => if v1 = 0 then (if a0 = 40 then (f3_dueBehindPart_13 a0 M2) else (if a0 = 41 then (gz_lt (gz_w M2 3 0 ((M2.1 3 0) - 1)) fun M7 => if 0 ≤ (M7.1 3 0) then (some (3, M7)) else (some ((-1), M7))) else if a0 = 42 then (some (3, M2)) else if a0 = 43 then (some (3, M2)) else if a0 = 59 then (if (M2.1 3 0) = 0 then (gz_bd2 (f3_dueInNextRule M2) fun v13 M14 => some (v13, M14)) else (some ((-1), M2))) else if a0 = 60 then (if (M2.1 3 0) = 0 then (some (5, M2)) else (some ((-1), M2))) else if a0 = 61 then (f3_dueBehindPart_144 M2) else if a0 = 62 then (f3_dueBehindPart_144 M2) else if a0 = 63 then (some (3, M2)) else if a0 = 124 then (some (2, M2)) else (some ((-1), M2)))) else (f3_dueBehindPart_13 a0 M2)
set_option maxRecDepth 100000 in
theorem c3_dueBehindPart {pf : Nat → Bool} {l : Launch} {r : Int32} {M0 M' : gz_M} {a0 : Int32} (hf : f3_dueBehindPart a0 M0 = some (r, M')) : gz_CI l gz_cfC yX3_dueBehindPart cX3_dueBehindPart 2 4 .int (fun ad => [.ref (ad 3), .int a0]) pf M0 r M' := by
  refine gz_ofI (by decide +kernel) (fun _ => Nat.le_of_ble_eq_true rfl) (fun x X hc hE => ?_)
  show gz_At x 0 [(0, .ref (gx_ad x 3)), (1, .int a0)] [] M0
  unfold f3_dueBehindPart at hf
  refine gr_iload_n X dX3_dueBehindPart_0 1 rfl rfl ?_
  obtain ⟨v1, M2, q3, hf⟩ := gz_bd2e hf
  refine gr_callSI (asF := fun _ => [.int a0]) [.int a0] X (c3_isLetter q3) rfl wm_RX3_58 rfl (by decide) (by decide) rfl (Nat.le_of_ble_eq_true rfl) hc dX3_dueBehindPart_1 ?_
  refine gr_if_ne 13 X dX3_dueBehindPart_4 (by decide) (fun h4 => ?_) (fun h4 => ?_)
  · rw [if_pos h4] at hf
    refine gr_iload_n X dX3_dueBehindPart_7 1 rfl rfl ?_
    refine gr_bipush 40 X dX3_dueBehindPart_8 (by decide) ?_
    refine gr_icmp_ne 19 X dX3_dueBehindPart_10 (by decide) (fun h5 => ?_) (fun h5 => ?_)
    · rw [if_pos h5] at hf
      exact b3_dueBehindPart_13 X hc hE _ _ hf
    · rw [if_neg h5] at hf
      refine gr_iload_n X dX3_dueBehindPart_19 1 rfl rfl ?_
      by_cases h6 : a0 = 41
      · rw [if_pos h6] at hf
        refine gr_lsIn 41 88 108 X dX3_dueBehindPart_20 h6 (by decide) (by decide) (by decide) ?_
        refine gr_aload_n X dX3_dueBehindPart_108 0 rfl rfl ?_
        refine gr_dup X dX3_dueBehindPart_109 rfl ?_
        refine gf3_0 X wf_RX3_9 dX3_dueBehindPart_110 ?_
        refine gr_iconst 1 X dX3_dueBehindPart_113 (by decide) ?_
        refine gr_isub X dX3_dueBehindPart_114 ?_
        obtain ⟨M7, eM7, hf⟩ := gz_lte hf
        refine gp3_0 X wf_RX3_9 eM7 dX3_dueBehindPart_115 ?_
        refine gr_aload_n X dX3_dueBehindPart_118 0 rfl rfl ?_
        refine gf3_0 X wf_RX3_9 dX3_dueBehindPart_119 ?_
        refine gr_if_ge 129 X dX3_dueBehindPart_122 (by decide) (fun h8 => ?_) (fun h8 => ?_)
        · rw [if_pos h8] at hf
          refine gr_iconst 3 X dX3_dueBehindPart_129 (by decide) ?_
          exact gz_EIu hE hf rfl dX3_dueBehindPart_130
        · rw [if_neg h8] at hf
          refine gr_iconst (-1) X dX3_dueBehindPart_125 (by decide) ?_
          refine gr_goto 130 X dX3_dueBehindPart_126 (by decide) ?_
          exact gz_EIu hE hf rfl dX3_dueBehindPart_130
      rw [if_neg h6] at hf
      by_cases h9 : a0 = 42
      · rw [if_pos h9] at hf
        refine gr_lsIn 42 84 104 X dX3_dueBehindPart_20 h9 (by decide) (by decide) (by decide) ?_
        refine gr_iconst 3 X dX3_dueBehindPart_104 (by decide) ?_
        exact gz_EIu hE hf rfl dX3_dueBehindPart_105
      rw [if_neg h9] at hf
      by_cases h10 : a0 = 43
      · rw [if_pos h10] at hf
        refine gr_lsIn 43 84 104 X dX3_dueBehindPart_20 h10 (by decide) (by decide) (by decide) ?_
        refine gr_iconst 3 X dX3_dueBehindPart_104 (by decide) ?_
        exact gz_EIu hE hf rfl dX3_dueBehindPart_105
      rw [if_neg h10] at hf
      by_cases h11 : a0 = 59
      · rw [if_pos h11] at hf
        refine gr_lsIn 59 137 157 X dX3_dueBehindPart_20 h11 (by decide) (by decide) (by decide) ?_
        refine gr_aload_n X dX3_dueBehindPart_157 0 rfl rfl ?_
        refine gf3_0 X wf_RX3_9 dX3_dueBehindPart_158 ?_
        refine gr_if_ne 171 X dX3_dueBehindPart_161 (by decide) (fun h12 => ?_) (fun h12 => ?_)
        · rw [if_pos h12] at hf
          refine gr_aload_n X dX3_dueBehindPart_164 0 rfl rfl ?_
          obtain ⟨v13, M14, q15, hf⟩ := gz_bd2e hf
          refine gr_callI (asF := fun ad => [.ref (ad 3)]) [] X (c3_dueInNextRule q15) rfl wm_RX3_54 rfl (X.kd gk_C3).1 ((X.kd gk_C3).2 _ _ _ _) rfl (by decide) (by decide) rfl (Nat.le_of_ble_eq_true rfl) hc dX3_dueBehindPart_165 ?_
          refine gr_goto 172 X dX3_dueBehindPart_168 (by decide) ?_
          exact gz_EIu hE hf rfl dX3_dueBehindPart_172
        · rw [if_neg h12] at hf
          refine gr_iconst (-1) X dX3_dueBehindPart_171 (by decide) ?_
          exact gz_EIu hE hf rfl dX3_dueBehindPart_172
      rw [if_neg h11] at hf
      by_cases h16 : a0 = 60
      · rw [if_pos h16] at hf
        refine gr_lsIn 60 111 131 X dX3_dueBehindPart_20 h16 (by decide) (by decide) (by decide) ?_
        refine gr_aload_n X dX3_dueBehindPart_131 0 rfl rfl ?_
        refine gf3_0 X wf_RX3_9 dX3_dueBehindPart_132 ?_
        refine gr_if_ne 142 X dX3_dueBehindPart_135 (by decide) (fun h17 => ?_) (fun h17 => ?_)
        · rw [if_pos h17] at hf
          refine gr_iconst 5 X dX3_dueBehindPart_138 (by decide) ?_
          refine gr_goto 143 X dX3_dueBehindPart_139 (by decide) ?_
          exact gz_EIu hE hf rfl dX3_dueBehindPart_143
        · rw [if_neg h17] at hf
          refine gr_iconst (-1) X dX3_dueBehindPart_142 (by decide) ?_
          exact gz_EIu hE hf rfl dX3_dueBehindPart_143
      rw [if_neg h16] at hf
      by_cases h18 : a0 = 61
      · rw [if_pos h18] at hf
        refine gr_lsIn 61 124 144 X dX3_dueBehindPart_20 h18 (by decide) (by decide) (by decide) ?_
        refine gr_sub (lv' := [(0, .ref (gx_ad x 3))]) [0] rfl ?_
        exact b3_dueBehindPart_144 X hc hE  _ hf
      rw [if_neg h18] at hf
      by_cases h19 : a0 = 62
      · rw [if_pos h19] at hf
        refine gr_lsIn 62 124 144 X dX3_dueBehindPart_20 h19 (by decide) (by decide) (by decide) ?_
        refine gr_sub (lv' := [(0, .ref (gx_ad x 3))]) [0] rfl ?_
        exact b3_dueBehindPart_144 X hc hE  _ hf
      rw [if_neg h19] at hf
      by_cases h20 : a0 = 63
      · rw [if_pos h20] at hf
        refine gr_lsIn 63 84 104 X dX3_dueBehindPart_20 h20 (by decide) (by decide) (by decide) ?_
        refine gr_iconst 3 X dX3_dueBehindPart_104 (by decide) ?_
        exact gz_EIu hE hf rfl dX3_dueBehindPart_105
      rw [if_neg h20] at hf
      by_cases h21 : a0 = 124
      · rw [if_pos h21] at hf
        refine gr_lsIn 124 86 106 X dX3_dueBehindPart_20 h21 (by decide) (by decide) (by decide) ?_
        refine gr_iconst 2 X dX3_dueBehindPart_106 (by decide) ?_
        exact gz_EIu hE hf rfl dX3_dueBehindPart_107
      rw [if_neg h21] at hf
      refine gr_lsOut 153 173 X dX3_dueBehindPart_20 (by decide) (by simp only [Op.lookupswitch.offset_cons, Op.lookupswitch.offset_nil]; rw [if_neg (gz_kne 41 h6 (by decide)), if_neg (gz_kne 42 h9 (by decide)), if_neg (gz_kne 43 h10 (by decide)), if_neg (gz_kne 59 h11 (by decide)), if_neg (gz_kne 60 h16 (by decide)), if_neg (gz_kne 61 h18 (by decide)), if_neg (gz_kne 62 h19 (by decide)), if_neg (gz_kne 63 h20 (by decide)), if_neg (gz_kne 124 h21 (by decide))]) (by decide) ?_
      refine gr_iconst (-1) X dX3_dueBehindPart_173 (by decide) ?_
      exact gz_EIu hE hf rfl dX3_dueBehindPart_174
  · rw [if_neg h4] at hf
    exact b3_dueBehindPart_13 X hc hE _ _ hf

def f3_isModeDigit (a0 : Int32) (M0 : gz_M) : Option (Int32 × gz_M) := if a0 < 48 then (some (0, M0)) else (if 51 < a0 then (some (0, M0)) else (some (1, M0)))
set_option maxRecDepth 100000 in
theorem c3_isModeDigit {pf : Nat → Bool} {l : Launch} {r : Int32} {M0 M' : gz_M} {a0 : Int32} (hf : f3_isModeDigit a0 M0 = some (r, M')) : gz_CI l gz_cfC yX3_isModeDigit cX3_isModeDigit 1 1 .boolean (fun _ => [.int a0]) pf M0 r M' := by
  refine gz_ofI (by decide +kernel) (fun _ => Nat.le_of_ble_eq_true rfl) (fun x X hc hE => ?_)
  show gz_At x 0 [(0, .int a0)] [] M0
  unfold f3_isModeDigit at hf
  refine gr_iload_n X dX3_isModeDigit_0 0 rfl rfl ?_
  refine gr_bipush 48 X dX3_isModeDigit_1 (by decide) ?_
  refine gr_icmp_lt 16 X dX3_isModeDigit_3 (by decide) (fun h1 => ?_) (fun h1 => ?_)
  · rw [if_pos h1] at hf
    refine gr_iconst 0 X dX3_isModeDigit_16 (by decide) ?_
    exact gz_EIu hE hf rfl dX3_isModeDigit_17
  · rw [if_neg h1] at hf
    refine gr_iload_n X dX3_isModeDigit_6 0 rfl rfl ?_
    refine gr_bipush 51 X dX3_isModeDigit_7 (by decide) ?_
    refine gr_icmp_gt 16 X dX3_isModeDigit_9 (by decide) (fun h2 => ?_) (fun h2 => ?_)
    · rw [if_pos h2] at hf
      refine gr_iconst 0 X dX3_isModeDigit_16 (by decide) ?_
      exact gz_EIu hE hf rfl dX3_isModeDigit_17
    · rw [if_neg h2] at hf
      refine gr_iconst 1 X dX3_isModeDigit_12 (by decide) ?_
      refine gr_goto 17 X dX3_isModeDigit_13 (by decide) ?_
      exact gz_EIu hE hf rfl dX3_isModeDigit_17

def f3_dueBehind (a0 : Int32) (a1 : Int32) (M0 : gz_M) : Option (Int32 × gz_M) := if a0.toInt < 0 ∨ 4 < a0.toInt then (if a1 = 59 then (gz_bd2 (f3_dueInNextRule M0) fun v3 M4 => some (v3, M4)) else (some ((-1), M0))) else if a0 = 0 then (gz_bd2 (f3_isModeDigit a1 M0) fun v7 M8 => if v7 = 0 then (some ((-1), M8)) else (some (1, M8))) else if a0 = 1 then (if a1 = 58 then (some (2, M0)) else (some ((-1), M0))) else if a0 = 2 then (gz_bd2 (f3_dueInPart a1 M0) fun v14 M15 => some (v14, M15)) else if a0 = 3 then (gz_bd2 (f3_dueBehindPart a1 M0) fun v18 M19 => some (v18, M19)) else if a0 = 4 then (gz_bd2 (f3_isModeDigit a1 M0) fun v22 M23 => if v22 = 0 then (some ((-1), M23)) else (some (5, M23))) else none
set_option maxRecDepth 100000 in
theorem c3_dueBehind {pf : Nat → Bool} {l : Launch} {r : Int32} {M0 M' : gz_M} {a0 : Int32} {a1 : Int32} (hf : f3_dueBehind a0 a1 M0 = some (r, M')) : gz_CI l gz_cfC yX3_dueBehind cX3_dueBehind 3 5 .int (fun ad => [.ref (ad 3), .int a0, .int a1]) pf M0 r M' := by
  refine gz_ofI (by decide +kernel) (fun _ => Nat.le_of_ble_eq_true rfl) (fun x X hc hE => ?_)
  show gz_At x 0 [(0, .ref (gx_ad x 3)), (1, .int a0), (2, .int a1)] [] M0
  unfold f3_dueBehind at hf
  refine gr_iload_n X dX3_dueBehind_0 1 rfl rfl ?_
  by_cases h1 : a0.toInt < 0 ∨ 4 < a0.toInt
  · rw [if_pos h1] at hf
    refine gr_tsOut 86 X dX3_dueBehind_1 h1 (by decide) ?_
    refine gr_iload_n X dX3_dueBehind_86 2 rfl rfl ?_
    refine gr_bipush 59 X dX3_dueBehind_87 (by decide) ?_
    refine gr_icmp_ne 99 X dX3_dueBehind_89 (by decide) (fun h2 => ?_) (fun h2 => ?_)
    · rw [if_pos h2] at hf
      refine gr_aload_n X dX3_dueBehind_92 0 rfl rfl ?_
      obtain ⟨v3, M4, q5, hf⟩ := gz_bd2e hf
      refine gr_callI (asF := fun ad => [.ref (ad 3)]) [] X (c3_dueInNextRule q5) rfl wm_RX3_54 rfl (X.kd gk_C3).1 ((X.kd gk_C3).2 _ _ _ _) rfl (by decide) (by decide) rfl (Nat.le_of_ble_eq_true rfl) hc dX3_dueBehind_93 ?_
      refine gr_goto 100 X dX3_dueBehind_96 (by decide) ?_
      exact gz_EIu hE hf rfl dX3_dueBehind_100
    · rw [if_neg h2] at hf
      refine gr_iconst (-1) X dX3_dueBehind_99 (by decide) ?_
      exact gz_EIu hE hf rfl dX3_dueBehind_100
  rw [if_neg h1] at hf
  by_cases h6 : a0 = 0
  · rw [if_pos h6] at hf
    refine gr_tsIn 0 35 36 X dX3_dueBehind_1 h6 (by decide) (by decide) (by decide) (by decide) ?_
    refine gr_iload_n X dX3_dueBehind_36 2 rfl rfl ?_
    obtain ⟨v7, M8, q9, hf⟩ := gz_bd2e hf
    refine gr_callSI (asF := fun _ => [.int a1]) [.int a1] X (c3_isModeDigit q9) rfl wm_RX3_45 rfl (by decide) (by decide) rfl (Nat.le_of_ble_eq_true rfl) hc dX3_dueBehind_37 ?_
    refine gr_if_eq 47 X dX3_dueBehind_40 (by decide) (fun h10 => ?_) (fun h10 => ?_)
    · rw [if_pos h10] at hf
      refine gr_iconst (-1) X dX3_dueBehind_47 (by decide) ?_
      exact gz_EIu hE hf rfl dX3_dueBehind_48
    · rw [if_neg h10] at hf
      refine gr_iconst 1 X dX3_dueBehind_43 (by decide) ?_
      refine gr_goto 48 X dX3_dueBehind_44 (by decide) ?_
      exact gz_EIu hE hf rfl dX3_dueBehind_48
  rw [if_neg h6] at hf
  by_cases h11 : a0 = 1
  · rw [if_pos h11] at hf
    refine gr_tsIn 1 48 49 X dX3_dueBehind_1 h11 (by decide) (by decide) (by decide) (by decide) ?_
    refine gr_iload_n X dX3_dueBehind_49 2 rfl rfl ?_
    refine gr_bipush 58 X dX3_dueBehind_50 (by decide) ?_
    refine gr_icmp_ne 59 X dX3_dueBehind_52 (by decide) (fun h12 => ?_) (fun h12 => ?_)
    · rw [if_pos h12] at hf
      refine gr_iconst 2 X dX3_dueBehind_55 (by decide) ?_
      refine gr_goto 60 X dX3_dueBehind_56 (by decide) ?_
      exact gz_EIu hE hf rfl dX3_dueBehind_60
    · rw [if_neg h12] at hf
      refine gr_iconst (-1) X dX3_dueBehind_59 (by decide) ?_
      exact gz_EIu hE hf rfl dX3_dueBehind_60
  rw [if_neg h11] at hf
  by_cases h13 : a0 = 2
  · rw [if_pos h13] at hf
    refine gr_tsIn 2 60 61 X dX3_dueBehind_1 h13 (by decide) (by decide) (by decide) (by decide) ?_
    refine gr_aload_n X dX3_dueBehind_61 0 rfl rfl ?_
    refine gr_iload_n X dX3_dueBehind_62 2 rfl rfl ?_
    obtain ⟨v14, M15, q16, hf⟩ := gz_bd2e hf
    refine gr_callI (asF := fun ad => [.ref (ad 3), .int a1]) [.int a1] X (c3_dueInPart q16) rfl wm_RX3_48 rfl (X.kd gk_C3).1 ((X.kd gk_C3).2 _ _ _ _) rfl (by decide) (by decide) rfl (Nat.le_of_ble_eq_true rfl) hc dX3_dueBehind_63 ?_
    exact gz_EIu hE hf rfl dX3_dueBehind_66
  rw [if_neg h13] at hf
  by_cases h17 : a0 = 3
  · rw [if_pos h17] at hf
    refine gr_tsIn 3 66 67 X dX3_dueBehind_1 h17 (by decide) (by decide) (by decide) (by decide) ?_
    refine gr_aload_n X dX3_dueBehind_67 0 rfl rfl ?_
    refine gr_iload_n X dX3_dueBehind_68 2 rfl rfl ?_
    obtain ⟨v18, M19, q20, hf⟩ := gz_bd2e hf
    refine gr_callI (asF := fun ad => [.ref (ad 3), .int a1]) [.int a1] X (c3_dueBehindPart q20) rfl wm_RX3_51 rfl (X.kd gk_C3).1 ((X.kd gk_C3).2 _ _ _ _) rfl (by decide) (by decide) rfl (Nat.le_of_ble_eq_true rfl) hc dX3_dueBehind_69 ?_
    exact gz_EIu hE hf rfl dX3_dueBehind_72
  rw [if_neg h17] at hf
  by_cases h21 : a0 = 4
  · rw [if_pos h21] at hf
    refine gr_tsIn 4 72 73 X dX3_dueBehind_1 h21 (by decide) (by decide) (by decide) (by decide) ?_
    refine gr_iload_n X dX3_dueBehind_73 2 rfl rfl ?_
    obtain ⟨v22, M23, q24, hf⟩ := gz_bd2e hf
    refine gr_callSI (asF := fun _ => [.int a1]) [.int a1] X (c3_isModeDigit q24) rfl wm_RX3_45 rfl (by decide) (by decide) rfl (Nat.le_of_ble_eq_true rfl) hc dX3_dueBehind_74 ?_
    refine gr_if_eq 84 X dX3_dueBehind_77 (by decide) (fun h25 => ?_) (fun h25 => ?_)
    · rw [if_pos h25] at hf
      refine gr_iconst (-1) X dX3_dueBehind_84 (by decide) ?_
      exact gz_EIu hE hf rfl dX3_dueBehind_85
    · rw [if_neg h25] at hf
      refine gr_iconst 5 X dX3_dueBehind_80 (by decide) ?_
      refine gr_goto 85 X dX3_dueBehind_81 (by decide) ?_
      exact gz_EIu hE hf rfl dX3_dueBehind_85
  rw [if_neg h21] at hf
  cases hf

def f3_faultOfRules_77 (s0 : Int32) (M0 : gz_M) : Option (Int32 × gz_M) := if s0 = 0 then (some ((-1) - (M0.1 1 1), M0)) else (some (0, M0))
theorem b3_faultOfRules_77 {x : gz_X} {pf : Nat → Bool} {l : Launch} {r : Int32} {M' : gz_M} (X : gz_Ok x cX3_faultOfRules RX3 4 6 gz_cfC pf l) (hc : gx_cells x ≤ (gx_R x).cells ∧ gx_slots x ≤ (gx_R x).slots) (hE : gz_EI x cX3_faultOfRules .int r M') : ∀ (s0 : Int32) (M0 : gz_M), f3_faultOfRules_77 s0 M0 = some (r, M') → gz_At x 77 [(1, .ref (gx_ad x 1))] [.int s0] M0 := by
  intro s0 M0  hf
  rw [f3_faultOfRules_77] at hf
  refine gr_istore_n [(3, .int s0), (1, .ref (gx_ad x 1))] X dX3_faultOfRules_77 rfl rfl (by decide) rfl ?_
  refine gr_iload_n X dX3_faultOfRules_78 0 rfl rfl ?_
  refine gr_if_eq 86 X dX3_faultOfRules_79 (by decide) (fun h1 => ?_) (fun h1 => ?_)
  · rw [if_pos h1] at hf
    refine gr_iconst (-1) X dX3_faultOfRules_86 (by decide) ?_
    refine gr_aload_n X dX3_faultOfRules_87 1 rfl rfl ?_
    refine gf10_1 X wf_RX3_18 dX3_faultOfRules_88 ?_
    refine gr_isub X dX3_faultOfRules_91 ?_
    exact gz_EIu hE hf rfl dX3_faultOfRules_92
  · rw [if_neg h1] at hf
    refine gr_iconst 0 X dX3_faultOfRules_82 (by decide) ?_
    refine gr_goto 92 X dX3_faultOfRules_83 (by decide) ?_
    exact gz_EIu hE hf rfl dX3_faultOfRules_92

def f3_faultOfRules_14 : Nat → Int32 → Int32 → gz_M → Option (Int32 × gz_M)
  | 0, _, _, _ => none
  | n + 1, x2, x3, M0 => if (M0.1 1 1) ≤ x3 then (if (M0.1 1 1) = 0 then (f3_faultOfRules_77 1 M0) else (if x2 = 5 then (f3_faultOfRules_77 1 M0) else (if x2 = 3 then (if (M0.1 3 0) = 0 then (f3_faultOfRules_77 1 M0) else (f3_faultOfRules_77 0 M0)) else (f3_faultOfRules_77 0 M0)))) else (gz_bd2 (f10_get x3 M0) fun v6 M7 => gz_bd2 (f3_dueBehind x2 v6 M7) fun v9 M10 => if v9 = (-1) then (some ((-1) - x3, M10)) else (gz_lt (x3 + 1) fun v13 => f3_faultOfRules_14 n v9 v13 M10))
theorem b3_faultOfRules_14 {x : gz_X} {pf : Nat → Bool} {l : Launch} {r : Int32} {M' : gz_M} (X : gz_Ok x cX3_faultOfRules RX3 4 6 gz_cfC pf l) (hc : gx_cells x ≤ (gx_R x).cells ∧ gx_slots x ≤ (gx_R x).slots) (hE : gz_EI x cX3_faultOfRules .int r M') : ∀ (n : Nat) (x2 : Int32) (x3 : Int32) (M0 : gz_M), f3_faultOfRules_14 n x2 x3 M0 = some (r, M') → gz_At x 14 [(0, .ref (gx_ad x 3)), (1, .ref (gx_ad x 1)), (2, .int x2), (3, .int x3)] [] M0 := by
  intro n
  induction n with
  | zero =>
    intro x2 x3 M0  hf
    rw [f3_faultOfRules_14] at hf
    cases hf
  | succ n ih =>
    intro x2 x3 M0  hf
    rw [f3_faultOfRules_14] at hf
    refine gr_iload_n X dX3_faultOfRules_14 3 rfl rfl ?_
    refine gr_aload_n X dX3_faultOfRules_15 1 rfl rfl ?_
    refine gf10_1 X wf_RX3_18 dX3_faultOfRules_16 ?_
    refine gr_icmp_ge 48 X dX3_faultOfRules_19 (by decide) (fun h1 => ?_) (fun h1 => ?_)
    · rw [if_pos h1] at hf
      refine gr_aload_n X dX3_faultOfRules_48 1 rfl rfl ?_
      refine gf10_1 X wf_RX3_18 dX3_faultOfRules_49 ?_
      refine gr_if_eq 72 X dX3_faultOfRules_52 (by decide) (fun h2 => ?_) (fun h2 => ?_)
      · rw [if_pos h2] at hf
        refine gr_iconst 1 X dX3_faultOfRules_72 (by decide) ?_
        refine gr_goto 77 X dX3_faultOfRules_73 (by decide) ?_
        refine gr_sub (lv' := [(1, .ref (gx_ad x 1))]) [1] rfl ?_
        exact b3_faultOfRules_77 X hc hE _ _ hf
      · rw [if_neg h2] at hf
        refine gr_iload_n X dX3_faultOfRules_55 2 rfl rfl ?_
        refine gr_iconst 5 X dX3_faultOfRules_56 (by decide) ?_
        refine gr_icmp_eq 72 X dX3_faultOfRules_57 (by decide) (fun h3 => ?_) (fun h3 => ?_)
        · rw [if_pos h3] at hf
          refine gr_iconst 1 X dX3_faultOfRules_72 (by decide) ?_
          refine gr_goto 77 X dX3_faultOfRules_73 (by decide) ?_
          refine gr_sub (lv' := [(1, .ref (gx_ad x 1))]) [1] rfl ?_
          exact b3_faultOfRules_77 X hc hE _ _ hf
        · rw [if_neg h3] at hf
          refine gr_iload_n X dX3_faultOfRules_60 2 rfl rfl ?_
          refine gr_iconst 3 X dX3_faultOfRules_61 (by decide) ?_
          refine gr_icmp_ne 76 X dX3_faultOfRules_62 (by decide) (fun h4 => ?_) (fun h4 => ?_)
          · rw [if_pos h4] at hf
            refine gr_aload_n X dX3_faultOfRules_65 0 rfl rfl ?_
            refine gf3_0 X wf_RX3_9 dX3_faultOfRules_66 ?_
            refine gr_if_ne 76 X dX3_faultOfRules_69 (by decide) (fun h5 => ?_) (fun h5 => ?_)
            · rw [if_pos h5] at hf
              refine gr_iconst 1 X dX3_faultOfRules_72 (by decide) ?_
              refine gr_goto 77 X dX3_faultOfRules_73 (by decide) ?_
              refine gr_sub (lv' := [(1, .ref (gx_ad x 1))]) [1] rfl ?_
              exact b3_faultOfRules_77 X hc hE _ _ hf
            · rw [if_neg h5] at hf
              refine gr_iconst 0 X dX3_faultOfRules_76 (by decide) ?_
              refine gr_sub (lv' := [(1, .ref (gx_ad x 1))]) [1] rfl ?_
              exact b3_faultOfRules_77 X hc hE _ _ hf
          · rw [if_neg h4] at hf
            refine gr_iconst 0 X dX3_faultOfRules_76 (by decide) ?_
            refine gr_sub (lv' := [(1, .ref (gx_ad x 1))]) [1] rfl ?_
            exact b3_faultOfRules_77 X hc hE _ _ hf
    · rw [if_neg h1] at hf
      refine gr_aload_n X dX3_faultOfRules_22 0 rfl rfl ?_
      refine gr_iload_n X dX3_faultOfRules_23 2 rfl rfl ?_
      refine gr_aload_n X dX3_faultOfRules_24 1 rfl rfl ?_
      refine gr_iload_n X dX3_faultOfRules_25 3 rfl rfl ?_
      obtain ⟨v6, M7, q8, hf⟩ := gz_bd2e hf
      refine gr_callI (asF := fun ad => [.ref (ad 1), .int x3]) [.int x3] X (c10_get q8) rfl wm_RX3_23 rfl (X.kd gk_C1).1 ((X.kd gk_C1).2 _ _ _ _) rfl (by decide) (by decide) rfl (Nat.le_of_ble_eq_true rfl) hc dX3_faultOfRules_26 ?_
      obtain ⟨v9, M10, q11, hf⟩ := gz_bd2e hf
      refine gr_callI (asF := fun ad => [.ref (ad 3), .int x2, .int v6]) [.int x2, .int v6] X (c3_dueBehind q11) rfl wm_RX3_27 rfl (X.kd gk_C3).1 ((X.kd gk_C3).2 _ _ _ _) rfl (by decide) (by decide) rfl (Nat.le_of_ble_eq_true rfl) hc dX3_faultOfRules_29 ?_
      refine gr_istore_n [(2, .int v9), (0, .ref (gx_ad x 3)), (1, .ref (gx_ad x 1)), (3, .int x3)] X dX3_faultOfRules_32 rfl rfl (by decide) rfl ?_
      refine gr_iload_n X dX3_faultOfRules_33 0 rfl rfl ?_
      refine gr_iconst (-1) X dX3_faultOfRules_34 (by decide) ?_
      refine gr_icmp_ne 42 X dX3_faultOfRules_35 (by decide) (fun h12 => ?_) (fun h12 => ?_)
      · rw [if_pos h12] at hf
        refine gr_iconst (-1) X dX3_faultOfRules_38 (by decide) ?_
        refine gr_iload_n X dX3_faultOfRules_39 3 rfl rfl ?_
        refine gr_isub X dX3_faultOfRules_40 ?_
        exact gz_EIu hE hf rfl dX3_faultOfRules_41
      · rw [if_neg h12] at hf
        obtain ⟨v13, ev13, hf⟩ := gz_lte hf
        refine gr_iinc 1 [(3, .int v13), (2, .int v9), (0, .ref (gx_ad x 3)), (1, .ref (gx_ad x 1))] X dX3_faultOfRules_42 3 rfl (by decide) ev13 (by decide) rfl ?_
        refine gr_goto 14 X dX3_faultOfRules_45 (by decide) ?_
        refine gr_sub (lv' := [(0, .ref (gx_ad x 3)), (1, .ref (gx_ad x 1)), (2, .int v9), (3, .int v13)]) [2, 3, 1, 0] rfl ?_
        exact ih _ _ _ hf

def f3_faultOfRules (M0 : gz_M) : Option (Int32 × gz_M) := gz_lt (gz_w M0 3 0 0) fun M1 => gz_lt (gz_w M1 3 1 0) fun M2 => f3_faultOfRules_14 gz_FU 0 0 M2
set_option maxRecDepth 100000 in
theorem c3_faultOfRules {pf : Nat → Bool} {l : Launch} {r : Int32} {M0 M' : gz_M} (hf : f3_faultOfRules M0 = some (r, M')) : gz_CI l gz_cfC yX3_faultOfRules cX3_faultOfRules 4 6 .int (fun ad => [.ref (ad 3), .ref (ad 1)]) pf M0 r M' := by
  refine gz_ofI (by decide +kernel) (fun _ => Nat.le_of_ble_eq_true rfl) (fun x X hc hE => ?_)
  show gz_At x 0 [(0, .ref (gx_ad x 3)), (1, .ref (gx_ad x 1))] [] M0
  unfold f3_faultOfRules at hf
  refine gr_aload_n X dX3_faultOfRules_0 0 rfl rfl ?_
  refine gr_iconst 0 X dX3_faultOfRules_1 (by decide) ?_
  obtain ⟨M1, eM1, hf⟩ := gz_lte hf
  refine gp3_0 X wf_RX3_9 eM1 dX3_faultOfRules_2 ?_
  refine gr_aload_n X dX3_faultOfRules_5 0 rfl rfl ?_
  refine gr_iconst 0 X dX3_faultOfRules_6 (by decide) ?_
  obtain ⟨M2, eM2, hf⟩ := gz_lte hf
  refine gp3_1 X wf_RX3_15 eM2 dX3_faultOfRules_7 ?_
  refine gr_iconst 0 X dX3_faultOfRules_10 (by decide) ?_
  refine gr_istore_n [(2, .int 0), (0, .ref (gx_ad x 3)), (1, .ref (gx_ad x 1))] X dX3_faultOfRules_11 rfl rfl (by decide) rfl ?_
  refine gr_iconst 0 X dX3_faultOfRules_12 (by decide) ?_
  refine gr_istore_n [(3, .int 0), (2, .int 0), (0, .ref (gx_ad x 3)), (1, .ref (gx_ad x 1))] X dX3_faultOfRules_13 rfl rfl (by decide) rfl ?_
  refine gr_sub (lv' := [(0, .ref (gx_ad x 3)), (1, .ref (gx_ad x 1)), (2, .int 0), (3, .int 0)]) [2, 3, 1, 0] rfl ?_
  exact b3_faultOfRules_14 X hc hE _ _ _ _ hf

def f3_lettersOfMode_7 : Nat → Int32 → Int32 → Int32 → Int32 → gz_M → Option (Int32 × gz_M)
  | 0, _, _, _, _, _ => none
  | n + 1, x1, x2, x3, x4, M0 => if (M0.1 1 1) ≤ x4 then (some (x2, M0)) else (gz_bd2 (f10_get x4 M0) fun v2 M3 => if x4 = 0 then (gz_lt (v2 - 48) fun v6 => gz_lt (x4 + 1) fun v7 => f3_lettersOfMode_7 n x1 x2 v6 v7 M3) else (gz_bd2 (f10_get (x4 - 1) M3) fun v8 M9 => if v8 = 59 then (gz_lt (v2 - 48) fun v12 => gz_lt (x4 + 1) fun v13 => f3_lettersOfMode_7 n x1 x2 v12 v13 M9) else (if x3 = x1 then (gz_bd2 (f3_isLetter v2 M9) fun v15 M16 => if v15 = 0 then (gz_lt (x4 + 1) fun v19 => f3_lettersOfMode_7 n x1 x2 x3 v19 M16) else (gz_lt (x2 + 1) fun v20 => gz_lt (x4 + 1) fun v21 => f3_lettersOfMode_7 n x1 v20 x3 v21 M16)) else (gz_lt (x4 + 1) fun v22 => f3_lettersOfMode_7 n x1 x2 x3 v22 M9))))
theorem b3_lettersOfMode_7 {x : gz_X} {pf : Nat → Bool} {l : Launch} {r : Int32} {M' : gz_M} (X : gz_Ok x cX3_lettersOfMode RX3 6 3 gz_cfC pf l) (hc : gx_cells x ≤ (gx_R x).cells ∧ gx_slots x ≤ (gx_R x).slots) (hE : gz_EI x cX3_lettersOfMode .int r M') : ∀ (n : Nat) (x1 : Int32) (x2 : Int32) (x3 : Int32) (x4 : Int32) (M0 : gz_M), f3_lettersOfMode_7 n x1 x2 x3 x4 M0 = some (r, M') → gz_At x 7 [(0, .ref (gx_ad x 1)), (1, .int x1), (2, .int x2), (3, .int x3), (4, .int x4)] [] M0 := by
  intro n
  induction n with
  | zero =>
    intro x1 x2 x3 x4 M0  hf
    rw [f3_lettersOfMode_7] at hf
    cases hf
  | succ n ih =>
    intro x1 x2 x3 x4 M0  hf
    rw [f3_lettersOfMode_7] at hf
    refine gr_iload X dX3_lettersOfMode_7 4 rfl ?_
    refine gr_aload_n X dX3_lettersOfMode_9 0 rfl rfl ?_
    refine gf10_1 X wf_RX3_18 dX3_lettersOfMode_10 ?_
    refine gr_icmp_ge 73 X dX3_lettersOfMode_13 (by decide) (fun h1 => ?_) (fun h1 => ?_)
    · rw [if_pos h1] at hf
      refine gr_iload_n X dX3_lettersOfMode_73 2 rfl rfl ?_
      exact gz_EIu hE hf rfl dX3_lettersOfMode_74
    · rw [if_neg h1] at hf
      refine gr_aload_n X dX3_lettersOfMode_16 0 rfl rfl ?_
      refine gr_iload X dX3_lettersOfMode_17 4 rfl ?_
      obtain ⟨v2, M3, q4, hf⟩ := gz_bd2e hf
      refine gr_callI (asF := fun ad => [.ref (ad 1), .int x4]) [.int x4] X (c10_get q4) rfl wm_RX3_23 rfl (X.kd gk_C1).1 ((X.kd gk_C1).2 _ _ _ _) rfl (by decide) (by decide) rfl (Nat.le_of_ble_eq_true rfl) hc dX3_lettersOfMode_19 ?_
      refine gr_istore [(5, .int v2), (0, .ref (gx_ad x 1)), (1, .int x1), (2, .int x2), (3, .int x3), (4, .int x4)] X dX3_lettersOfMode_22 rfl (by decide) rfl ?_
      refine gr_iload X dX3_lettersOfMode_24 5 rfl ?_
      refine gr_if_eq 42 X dX3_lettersOfMode_26 (by decide) (fun h5 => ?_) (fun h5 => ?_)
      · rw [if_pos h5] at hf
        refine gr_iload X dX3_lettersOfMode_42 0 rfl ?_
        refine gr_bipush 48 X dX3_lettersOfMode_44 (by decide) ?_
        refine gr_isub X dX3_lettersOfMode_46 ?_
        obtain ⟨v6, ev6, hf⟩ := gz_lte hf
        refine gr_istore_n [(3, .int v6), (5, .int v2), (0, .ref (gx_ad x 1)), (1, .int x1), (2, .int x2), (4, .int x4)] X dX3_lettersOfMode_47 ev6 rfl (by decide) rfl ?_
        refine gr_goto 67 X dX3_lettersOfMode_48 (by decide) ?_
        obtain ⟨v7, ev7, hf⟩ := gz_lte hf
        refine gr_iinc 1 [(4, .int v7), (3, .int v6), (5, .int v2), (0, .ref (gx_ad x 1)), (1, .int x1), (2, .int x2)] X dX3_lettersOfMode_67 5 rfl (by decide) ev7 (by decide) rfl ?_
        refine gr_goto 7 X dX3_lettersOfMode_70 (by decide) ?_
        refine gr_sub (lv' := [(0, .ref (gx_ad x 1)), (1, .int x1), (2, .int x2), (3, .int v6), (4, .int v7)]) [3, 4, 5, 1, 0] rfl ?_
        exact ih _ _ _ _ _ hf
      · rw [if_neg h5] at hf
        refine gr_aload_n X dX3_lettersOfMode_29 1 rfl rfl ?_
        refine gr_iload X dX3_lettersOfMode_30 5 rfl ?_
        refine gr_iconst 1 X dX3_lettersOfMode_32 (by decide) ?_
        refine gr_isub X dX3_lettersOfMode_33 ?_
        obtain ⟨v8, M9, q10, hf⟩ := gz_bd2e hf
        refine gr_callI (asF := fun ad => [.ref (ad 1), .int (x4 - 1)]) [.int (x4 - 1)] X (c10_get q10) rfl wm_RX3_23 rfl (X.kd gk_C1).1 ((X.kd gk_C1).2 _ _ _ _) rfl (by decide) (by decide) rfl (Nat.le_of_ble_eq_true rfl) hc dX3_lettersOfMode_34 ?_
        refine gr_bipush 59 X dX3_lettersOfMode_37 (by decide) ?_
        refine gr_icmp_ne 51 X dX3_lettersOfMode_39 (by decide) (fun h11 => ?_) (fun h11 => ?_)
        · rw [if_pos h11] at hf
          refine gr_iload X dX3_lettersOfMode_42 0 rfl ?_
          refine gr_bipush 48 X dX3_lettersOfMode_44 (by decide) ?_
          refine gr_isub X dX3_lettersOfMode_46 ?_
          obtain ⟨v12, ev12, hf⟩ := gz_lte hf
          refine gr_istore_n [(3, .int v12), (5, .int v2), (0, .ref (gx_ad x 1)), (1, .int x1), (2, .int x2), (4, .int x4)] X dX3_lettersOfMode_47 ev12 rfl (by decide) rfl ?_
          refine gr_goto 67 X dX3_lettersOfMode_48 (by decide) ?_
          obtain ⟨v13, ev13, hf⟩ := gz_lte hf
          refine gr_iinc 1 [(4, .int v13), (3, .int v12), (5, .int v2), (0, .ref (gx_ad x 1)), (1, .int x1), (2, .int x2)] X dX3_lettersOfMode_67 5 rfl (by decide) ev13 (by decide) rfl ?_
          refine gr_goto 7 X dX3_lettersOfMode_70 (by decide) ?_
          refine gr_sub (lv' := [(0, .ref (gx_ad x 1)), (1, .int x1), (2, .int x2), (3, .int v12), (4, .int v13)]) [3, 4, 5, 1, 0] rfl ?_
          exact ih _ _ _ _ _ hf
        · rw [if_neg h11] at hf
          refine gr_iload_n X dX3_lettersOfMode_51 4 rfl rfl ?_
          refine gr_iload_n X dX3_lettersOfMode_52 2 rfl rfl ?_
          refine gr_icmp_ne 67 X dX3_lettersOfMode_53 (by decide) (fun h14 => ?_) (fun h14 => ?_)
          · rw [if_pos h14] at hf
            refine gr_iload X dX3_lettersOfMode_56 0 rfl ?_
            obtain ⟨v15, M16, q17, hf⟩ := gz_bd2e hf
            refine gr_callSI (asF := fun _ => [.int v2]) [.int v2] X (c3_isLetter q17) rfl wm_RX3_58 rfl (by decide) (by decide) rfl (Nat.le_of_ble_eq_true rfl) hc dX3_lettersOfMode_58 ?_
            refine gr_if_eq 67 X dX3_lettersOfMode_61 (by decide) (fun h18 => ?_) (fun h18 => ?_)
            · rw [if_pos h18] at hf
              obtain ⟨v19, ev19, hf⟩ := gz_lte hf
              refine gr_iinc 1 [(4, .int v19), (5, .int v2), (0, .ref (gx_ad x 1)), (1, .int x1), (2, .int x2), (3, .int x3)] X dX3_lettersOfMode_67 5 rfl (by decide) ev19 (by decide) rfl ?_
              refine gr_goto 7 X dX3_lettersOfMode_70 (by decide) ?_
              refine gr_sub (lv' := [(0, .ref (gx_ad x 1)), (1, .int x1), (2, .int x2), (3, .int x3), (4, .int v19)]) [2, 3, 4, 5, 0] rfl ?_
              exact ih _ _ _ _ _ hf
            · rw [if_neg h18] at hf
              obtain ⟨v20, ev20, hf⟩ := gz_lte hf
              refine gr_iinc 1 [(2, .int v20), (5, .int v2), (0, .ref (gx_ad x 1)), (1, .int x1), (3, .int x3), (4, .int x4)] X dX3_lettersOfMode_64 3 rfl (by decide) ev20 (by decide) rfl ?_
              obtain ⟨v21, ev21, hf⟩ := gz_lte hf
              refine gr_iinc 1 [(4, .int v21), (2, .int v20), (5, .int v2), (0, .ref (gx_ad x 1)), (1, .int x1), (3, .int x3)] X dX3_lettersOfMode_67 5 rfl (by decide) ev21 (by decide) rfl ?_
              refine gr_goto 7 X dX3_lettersOfMode_70 (by decide) ?_
              refine gr_sub (lv' := [(0, .ref (gx_ad x 1)), (1, .int x1), (2, .int v20), (3, .int x3), (4, .int v21)]) [3, 4, 1, 5, 0] rfl ?_
              exact ih _ _ _ _ _ hf
          · rw [if_neg h14] at hf
            obtain ⟨v22, ev22, hf⟩ := gz_lte hf
            refine gr_iinc 1 [(4, .int v22), (5, .int v2), (0, .ref (gx_ad x 1)), (1, .int x1), (2, .int x2), (3, .int x3)] X dX3_lettersOfMode_67 5 rfl (by decide) ev22 (by decide) rfl ?_
            refine gr_goto 7 X dX3_lettersOfMode_70 (by decide) ?_
            refine gr_sub (lv' := [(0, .ref (gx_ad x 1)), (1, .int x1), (2, .int x2), (3, .int x3), (4, .int v22)]) [2, 3, 4, 5, 0] rfl ?_
            exact ih _ _ _ _ _ hf

def f3_lettersOfMode (a1 : Int32) (M0 : gz_M) : Option (Int32 × gz_M) := f3_lettersOfMode_7 gz_FU a1 0 (-1) 0 M0
set_option maxRecDepth 100000 in
theorem c3_lettersOfMode {pf : Nat → Bool} {l : Launch} {r : Int32} {M0 M' : gz_M} {a1 : Int32} (hf : f3_lettersOfMode a1 M0 = some (r, M')) : gz_CI l gz_cfC yX3_lettersOfMode cX3_lettersOfMode 6 3 .int (fun ad => [.ref (ad 1), .int a1]) pf M0 r M' := by
  refine gz_ofI (by decide +kernel) (fun _ => Nat.le_of_ble_eq_true rfl) (fun x X hc hE => ?_)
  show gz_At x 0 [(0, .ref (gx_ad x 1)), (1, .int a1)] [] M0
  unfold f3_lettersOfMode at hf
  refine gr_iconst 0 X dX3_lettersOfMode_0 (by decide) ?_
  refine gr_istore_n [(2, .int 0), (0, .ref (gx_ad x 1)), (1, .int a1)] X dX3_lettersOfMode_1 rfl rfl (by decide) rfl ?_
  refine gr_iconst (-1) X dX3_lettersOfMode_2 (by decide) ?_
  refine gr_istore_n [(3, .int (-1)), (2, .int 0), (0, .ref (gx_ad x 1)), (1, .int a1)] X dX3_lettersOfMode_3 rfl rfl (by decide) rfl ?_
  refine gr_iconst 0 X dX3_lettersOfMode_4 (by decide) ?_
  refine gr_istore [(4, .int 0), (3, .int (-1)), (2, .int 0), (0, .ref (gx_ad x 1)), (1, .int a1)] X dX3_lettersOfMode_5 rfl (by decide) rfl ?_
  refine gr_sub (lv' := [(0, .ref (gx_ad x 1)), (1, .int a1), (2, .int 0), (3, .int (-1)), (4, .int 0)]) [3, 4, 2, 1, 0] rfl ?_
  exact b3_lettersOfMode_7 X hc hE _ _ _ _ _ _ hf

def f3_faultOfLetters_2 : Nat → Int32 → gz_M → Option (Int32 × gz_M)
  | 0, _, _ => none
  | n + 1, x2, M0 => if 4 ≤ x2 then (some (0, M0)) else (gz_bd2 (f3_lettersOfMode x2 M0) fun v2 M3 => if v2 ≤ 10 then (gz_lt (x2 + 1) fun v6 => f3_faultOfLetters_2 n v6 M3) else (some ((-100) - x2, M3)))
theorem b3_faultOfLetters_2 {x : gz_X} {pf : Nat → Bool} {l : Launch} {r : Int32} {M' : gz_M} (X : gz_Ok x cX3_faultOfLetters RX3 3 4 gz_cfC pf l) (hc : gx_cells x ≤ (gx_R x).cells ∧ gx_slots x ≤ (gx_R x).slots) (hE : gz_EI x cX3_faultOfLetters .int r M') : ∀ (n : Nat) (x2 : Int32) (M0 : gz_M), f3_faultOfLetters_2 n x2 M0 = some (r, M') → gz_At x 2 [(1, .ref (gx_ad x 1)), (2, .int x2)] [] M0 := by
  intro n
  induction n with
  | zero =>
    intro x2 M0  hf
    rw [f3_faultOfLetters_2] at hf
    cases hf
  | succ n ih =>
    intro x2 M0  hf
    rw [f3_faultOfLetters_2] at hf
    refine gr_iload_n X dX3_faultOfLetters_2 1 rfl rfl ?_
    refine gr_iconst 4 X dX3_faultOfLetters_3 (by decide) ?_
    refine gr_icmp_ge 28 X dX3_faultOfLetters_4 (by decide) (fun h1 => ?_) (fun h1 => ?_)
    · rw [if_pos h1] at hf
      refine gr_iconst 0 X dX3_faultOfLetters_28 (by decide) ?_
      exact gz_EIu hE hf rfl dX3_faultOfLetters_29
    · rw [if_neg h1] at hf
      refine gr_aload_n X dX3_faultOfLetters_7 0 rfl rfl ?_
      refine gr_iload_n X dX3_faultOfLetters_8 1 rfl rfl ?_
      obtain ⟨v2, M3, q4, hf⟩ := gz_bd2e hf
      refine gr_callSI (asF := fun ad => [.ref (ad 1), .int x2]) [.ref (gx_ad x 1), .int x2] X (c3_lettersOfMode q4) rfl wm_RX3_31 rfl (by decide) (by decide) rfl (Nat.le_of_ble_eq_true rfl) hc dX3_faultOfLetters_9 ?_
      refine gr_bipush 10 X dX3_faultOfLetters_12 (by decide) ?_
      refine gr_icmp_le 22 X dX3_faultOfLetters_14 (by decide) (fun h5 => ?_) (fun h5 => ?_)
      · rw [if_pos h5] at hf
        obtain ⟨v6, ev6, hf⟩ := gz_lte hf
        refine gr_iinc 1 [(2, .int v6), (1, .ref (gx_ad x 1))] X dX3_faultOfLetters_22 1 rfl (by decide) ev6 (by decide) rfl ?_
        refine gr_goto 2 X dX3_faultOfLetters_25 (by decide) ?_
        refine gr_sub (lv' := [(1, .ref (gx_ad x 1)), (2, .int v6)]) [1, 0] rfl ?_
        exact ih _ _ hf
      · rw [if_neg h5] at hf
        refine gr_bipush (-100) X dX3_faultOfLetters_17 (by decide) ?_
        refine gr_iload_n X dX3_faultOfLetters_19 1 rfl rfl ?_
        refine gr_isub X dX3_faultOfLetters_20 ?_
        exact gz_EIu hE hf rfl dX3_faultOfLetters_21

def f3_faultOfLetters (M0 : gz_M) : Option (Int32 × gz_M) := f3_faultOfLetters_2 gz_FU 0 M0
set_option maxRecDepth 100000 in
theorem c3_faultOfLetters {pf : Nat → Bool} {l : Launch} {r : Int32} {M0 M' : gz_M} (hf : f3_faultOfLetters M0 = some (r, M')) : gz_CI l gz_cfC yX3_faultOfLetters cX3_faultOfLetters 3 4 .int (fun ad => [.ref (ad 3), .ref (ad 1)]) pf M0 r M' := by
  refine gz_ofI (by decide +kernel) (fun _ => Nat.le_of_ble_eq_true rfl) (fun x X hc hE => ?_)
  show gz_At x 0 [(0, .ref (gx_ad x 3)), (1, .ref (gx_ad x 1))] [] M0
  unfold f3_faultOfLetters at hf
  refine gr_iconst 0 X dX3_faultOfLetters_0 (by decide) ?_
  refine gr_istore_n [(2, .int 0), (0, .ref (gx_ad x 3)), (1, .ref (gx_ad x 1))] X dX3_faultOfLetters_1 rfl rfl (by decide) rfl ?_
  refine gr_sub (lv' := [(1, .ref (gx_ad x 1)), (2, .int 0)]) [2, 0] rfl ?_
  exact b3_faultOfLetters_2 X hc hE _ _ _ hf

def f3_faultOfLine_2 : Nat → Int32 → gz_M → Option (Int32 × gz_M)
  | 0, _, _ => none
  | n + 1, x2, M0 => if (M0.1 1 1) ≤ x2 then (some (0, M0)) else (if 24 ≤ x2 then (some ((-1) - x2, M0)) else (gz_bd2 (f10_get x2 M0) fun v3 M4 => gz_bd2 (f3_isSign v3 M4) fun v6 M7 => if v6 = 0 then (some ((-1) - x2, M7)) else (gz_lt (x2 + 1) fun v10 => f3_faultOfLine_2 n v10 M7)))
theorem b3_faultOfLine_2 {x : gz_X} {pf : Nat → Bool} {l : Launch} {r : Int32} {M' : gz_M} (X : gz_Ok x cX3_faultOfLine RX3 3 2 gz_cfC pf l) (hc : gx_cells x ≤ (gx_R x).cells ∧ gx_slots x ≤ (gx_R x).slots) (hE : gz_EI x cX3_faultOfLine .int r M') : ∀ (n : Nat) (x2 : Int32) (M0 : gz_M), f3_faultOfLine_2 n x2 M0 = some (r, M') → gz_At x 2 [(1, .ref (gx_ad x 1)), (2, .int x2)] [] M0 := by
  intro n
  induction n with
  | zero =>
    intro x2 M0  hf
    rw [f3_faultOfLine_2] at hf
    cases hf
  | succ n ih =>
    intro x2 M0  hf
    rw [f3_faultOfLine_2] at hf
    refine gr_iload_n X dX3_faultOfLine_2 1 rfl rfl ?_
    refine gr_aload_n X dX3_faultOfLine_3 0 rfl rfl ?_
    refine gf10_1 X wf_RX3_18 dX3_faultOfLine_4 ?_
    refine gr_icmp_ge 37 X dX3_faultOfLine_7 (by decide) (fun h1 => ?_) (fun h1 => ?_)
    · rw [if_pos h1] at hf
      refine gr_iconst 0 X dX3_faultOfLine_37 (by decide) ?_
      exact gz_EIu hE hf rfl dX3_faultOfLine_38
    · rw [if_neg h1] at hf
      refine gr_iload_n X dX3_faultOfLine_10 1 rfl rfl ?_
      refine gr_bipush 24 X dX3_faultOfLine_11 (by decide) ?_
      refine gr_icmp_ge 27 X dX3_faultOfLine_13 (by decide) (fun h2 => ?_) (fun h2 => ?_)
      · rw [if_pos h2] at hf
        refine gr_iconst (-1) X dX3_faultOfLine_27 (by decide) ?_
        refine gr_iload_n X dX3_faultOfLine_28 1 rfl rfl ?_
        refine gr_isub X dX3_faultOfLine_29 ?_
        exact gz_EIu hE hf rfl dX3_faultOfLine_30
      · rw [if_neg h2] at hf
        refine gr_aload_n X dX3_faultOfLine_16 0 rfl rfl ?_
        refine gr_iload_n X dX3_faultOfLine_17 1 rfl rfl ?_
        obtain ⟨v3, M4, q5, hf⟩ := gz_bd2e hf
        refine gr_callI (asF := fun ad => [.ref (ad 1), .int x2]) [.int x2] X (c10_get q5) rfl wm_RX3_23 rfl (X.kd gk_C1).1 ((X.kd gk_C1).2 _ _ _ _) rfl (by decide) (by decide) rfl (Nat.le_of_ble_eq_true rfl) hc dX3_faultOfLine_18 ?_
        obtain ⟨v6, M7, q8, hf⟩ := gz_bd2e hf
        refine gr_callSI (asF := fun _ => [.int v3]) [.int v3] X (c3_isSign q8) rfl wm_RX3_35 rfl (by decide) (by decide) rfl (Nat.le_of_ble_eq_true rfl) hc dX3_faultOfLine_21 ?_
        refine gr_if_ne 31 X dX3_faultOfLine_24 (by decide) (fun h9 => ?_) (fun h9 => ?_)
        · rw [if_pos h9] at hf
          refine gr_iconst (-1) X dX3_faultOfLine_27 (by decide) ?_
          refine gr_iload_n X dX3_faultOfLine_28 1 rfl rfl ?_
          refine gr_isub X dX3_faultOfLine_29 ?_
          exact gz_EIu hE hf rfl dX3_faultOfLine_30
        · rw [if_neg h9] at hf
          obtain ⟨v10, ev10, hf⟩ := gz_lte hf
          refine gr_iinc 1 [(2, .int v10), (1, .ref (gx_ad x 1))] X dX3_faultOfLine_31 1 rfl (by decide) ev10 (by decide) rfl ?_
          refine gr_goto 2 X dX3_faultOfLine_34 (by decide) ?_
          refine gr_sub (lv' := [(1, .ref (gx_ad x 1)), (2, .int v10)]) [1, 0] rfl ?_
          exact ih _ _ hf

def f3_faultOfLine (M0 : gz_M) : Option (Int32 × gz_M) := f3_faultOfLine_2 gz_FU 0 M0
set_option maxRecDepth 100000 in
theorem c3_faultOfLine {pf : Nat → Bool} {l : Launch} {r : Int32} {M0 M' : gz_M} (hf : f3_faultOfLine M0 = some (r, M')) : gz_CI l gz_cfC yX3_faultOfLine cX3_faultOfLine 3 2 .int (fun ad => [.ref (ad 3), .ref (ad 1)]) pf M0 r M' := by
  refine gz_ofI (by decide +kernel) (fun _ => Nat.le_of_ble_eq_true rfl) (fun x X hc hE => ?_)
  show gz_At x 0 [(0, .ref (gx_ad x 3)), (1, .ref (gx_ad x 1))] [] M0
  unfold f3_faultOfLine at hf
  refine gr_iconst 0 X dX3_faultOfLine_0 (by decide) ?_
  refine gr_istore_n [(2, .int 0), (0, .ref (gx_ad x 3)), (1, .ref (gx_ad x 1))] X dX3_faultOfLine_1 rfl rfl (by decide) rfl ?_
  refine gr_sub (lv' := [(1, .ref (gx_ad x 1)), (2, .int 0)]) [2, 0] rfl ?_
  exact b3_faultOfLine_2 X hc hE _ _ _ hf

def f3_isDigit (a0 : Int32) (M0 : gz_M) : Option (Int32 × gz_M) := if a0 < 48 then (some (0, M0)) else (if 57 < a0 then (some (0, M0)) else (some (1, M0)))
set_option maxRecDepth 100000 in
theorem c3_isDigit {pf : Nat → Bool} {l : Launch} {r : Int32} {M0 M' : gz_M} {a0 : Int32} (hf : f3_isDigit a0 M0 = some (r, M')) : gz_CI l gz_cfC yX3_isDigit cX3_isDigit 1 1 .boolean (fun _ => [.int a0]) pf M0 r M' := by
  refine gz_ofI (by decide +kernel) (fun _ => Nat.le_of_ble_eq_true rfl) (fun x X hc hE => ?_)
  show gz_At x 0 [(0, .int a0)] [] M0
  unfold f3_isDigit at hf
  refine gr_iload_n X dX3_isDigit_0 0 rfl rfl ?_
  refine gr_bipush 48 X dX3_isDigit_1 (by decide) ?_
  refine gr_icmp_lt 16 X dX3_isDigit_3 (by decide) (fun h1 => ?_) (fun h1 => ?_)
  · rw [if_pos h1] at hf
    refine gr_iconst 0 X dX3_isDigit_16 (by decide) ?_
    exact gz_EIu hE hf rfl dX3_isDigit_17
  · rw [if_neg h1] at hf
    refine gr_iload_n X dX3_isDigit_6 0 rfl rfl ?_
    refine gr_bipush 57 X dX3_isDigit_7 (by decide) ?_
    refine gr_icmp_gt 16 X dX3_isDigit_9 (by decide) (fun h2 => ?_) (fun h2 => ?_)
    · rw [if_pos h2] at hf
      refine gr_iconst 0 X dX3_isDigit_16 (by decide) ?_
      exact gz_EIu hE hf rfl dX3_isDigit_17
    · rw [if_neg h2] at hf
      refine gr_iconst 1 X dX3_isDigit_12 (by decide) ?_
      refine gr_goto 17 X dX3_isDigit_13 (by decide) ?_
      exact gz_EIu hE hf rfl dX3_isDigit_17

def f3_kindOfChange (a0 : Int32) (M0 : gz_M) : Option (Int32 × gz_M) := if a0 = 114 then (some (0, M0)) else (if a0 = 105 then (some (1, M0)) else (if a0 = 100 then (some (2, M0)) else (some ((-1), M0))))
set_option maxRecDepth 100000 in
theorem c3_kindOfChange {pf : Nat → Bool} {l : Launch} {r : Int32} {M0 M' : gz_M} {a0 : Int32} (hf : f3_kindOfChange a0 M0 = some (r, M')) : gz_CI l gz_cfC yX3_kindOfChange cX3_kindOfChange 1 1 .int (fun _ => [.int a0]) pf M0 r M' := by
  refine gz_ofI (by decide +kernel) (fun _ => Nat.le_of_ble_eq_true rfl) (fun x X hc hE => ?_)
  show gz_At x 0 [(0, .int a0)] [] M0
  unfold f3_kindOfChange at hf
  refine gr_iload_n X dX3_kindOfChange_0 0 rfl rfl ?_
  refine gr_bipush 114 X dX3_kindOfChange_1 (by decide) ?_
  refine gr_icmp_ne 8 X dX3_kindOfChange_3 (by decide) (fun h1 => ?_) (fun h1 => ?_)
  · rw [if_pos h1] at hf
    refine gr_iconst 0 X dX3_kindOfChange_6 (by decide) ?_
    exact gz_EIu hE hf rfl dX3_kindOfChange_7
  · rw [if_neg h1] at hf
    refine gr_iload_n X dX3_kindOfChange_8 0 rfl rfl ?_
    refine gr_bipush 105 X dX3_kindOfChange_9 (by decide) ?_
    refine gr_icmp_ne 16 X dX3_kindOfChange_11 (by decide) (fun h2 => ?_) (fun h2 => ?_)
    · rw [if_pos h2] at hf
      refine gr_iconst 1 X dX3_kindOfChange_14 (by decide) ?_
      exact gz_EIu hE hf rfl dX3_kindOfChange_15
    · rw [if_neg h2] at hf
      refine gr_iload_n X dX3_kindOfChange_16 0 rfl rfl ?_
      refine gr_bipush 100 X dX3_kindOfChange_17 (by decide) ?_
      refine gr_icmp_ne 26 X dX3_kindOfChange_19 (by decide) (fun h3 => ?_) (fun h3 => ?_)
      · rw [if_pos h3] at hf
        refine gr_iconst 2 X dX3_kindOfChange_22 (by decide) ?_
        refine gr_goto 27 X dX3_kindOfChange_23 (by decide) ?_
        exact gz_EIu hE hf rfl dX3_kindOfChange_27
      · rw [if_neg h3] at hf
        refine gr_iconst (-1) X dX3_kindOfChange_26 (by decide) ?_
        exact gz_EIu hE hf rfl dX3_kindOfChange_27

def f3_faultOfDay_101 (c7 : Int32 → Int32 → Int32 → gz_M → Option (Int32 × gz_M)) (x2 : Int32) (x3 : Int32) (x4 : Int32) (s0 : Int32) (M0 : gz_M) : Option (Int32 × gz_M) := if s0 = 0 then (gz_lt (x3 + 1) fun v2 => gz_lt (x4 + 1) fun v3 => c7 x2 v2 v3 M0) else (gz_lt (x4 + 1) fun v4 => c7 x2 0 v4 M0)
theorem b3_faultOfDay_101 {x : gz_X} {pf : Nat → Bool} {l : Launch} {r : Int32} {M' : gz_M} (X : gz_Ok x cX3_faultOfDay RX3 8 2 gz_cfC pf l) (hc : gx_cells x ≤ (gx_R x).cells ∧ gx_slots x ≤ (gx_R x).slots) (hE : gz_EI x cX3_faultOfDay .int r M') {c7 : Int32 → Int32 → Int32 → gz_M → Option (Int32 × gz_M)} (hc7 : ∀ (x2 : Int32) (x3 : Int32) (x4 : Int32) (M0 : gz_M), c7 x2 x3 x4 M0 = some (r, M') → gz_At x 7 [(1, .ref (gx_ad x 1)), (2, .int x2), (3, .int x3), (4, .int x4)] [] M0) : ∀ (x2 : Int32) (x3 : Int32) (x4 : Int32) (s0 : Int32) (M0 : gz_M), f3_faultOfDay_101 c7 x2 x3 x4 s0 M0 = some (r, M') → gz_At x 101 [(1, .ref (gx_ad x 1)), (2, .int x2), (3, .int x3), (4, .int x4)] [.int s0] M0 := by
  intro x2 x3 x4 s0 M0  hf
  rw [f3_faultOfDay_101] at hf
  refine gr_istore [(7, .int s0), (1, .ref (gx_ad x 1)), (2, .int x2), (3, .int x3), (4, .int x4)] X dX3_faultOfDay_101 rfl (by decide) rfl ?_
  refine gr_iload X dX3_faultOfDay_103 0 rfl ?_
  refine gr_if_eq 112 X dX3_faultOfDay_105 (by decide) (fun h1 => ?_) (fun h1 => ?_)
  · rw [if_pos h1] at hf
    refine gr_iload_n X dX3_faultOfDay_112 3 rfl rfl ?_
    refine gr_iconst 1 X dX3_faultOfDay_113 (by decide) ?_
    refine gr_iadd X dX3_faultOfDay_114 ?_
    obtain ⟨v2, ev2, hf⟩ := gz_lte hf
    refine gr_istore_n [(3, .int v2), (7, .int s0), (1, .ref (gx_ad x 1)), (2, .int x2), (4, .int x4)] X dX3_faultOfDay_115 ev2 rfl (by decide) rfl ?_
    obtain ⟨v3, ev3, hf⟩ := gz_lte hf
    refine gr_iinc 1 [(4, .int v3), (3, .int v2), (7, .int s0), (1, .ref (gx_ad x 1)), (2, .int x2)] X dX3_faultOfDay_116 4 rfl (by decide) ev3 (by decide) rfl ?_
    refine gr_goto 7 X dX3_faultOfDay_119 (by decide) ?_
    refine gr_sub (lv' := [(1, .ref (gx_ad x 1)), (2, .int x2), (3, .int v2), (4, .int v3)]) [3, 4, 1, 0] rfl ?_
    exact hc7 _ _ _ _ hf
  · rw [if_neg h1] at hf
    refine gr_iconst 0 X dX3_faultOfDay_108 (by decide) ?_
    refine gr_goto 115 X dX3_faultOfDay_109 (by decide) ?_
    refine gr_istore_n [(3, .int 0), (7, .int s0), (1, .ref (gx_ad x 1)), (2, .int x2), (4, .int x4)] X dX3_faultOfDay_115 rfl rfl (by decide) rfl ?_
    obtain ⟨v4, ev4, hf⟩ := gz_lte hf
    refine gr_iinc 1 [(4, .int v4), (3, .int 0), (7, .int s0), (1, .ref (gx_ad x 1)), (2, .int x2)] X dX3_faultOfDay_116 4 rfl (by decide) ev4 (by decide) rfl ?_
    refine gr_goto 7 X dX3_faultOfDay_119 (by decide) ?_
    refine gr_sub (lv' := [(1, .ref (gx_ad x 1)), (2, .int x2), (3, .int 0), (4, .int v4)]) [3, 4, 1, 0] rfl ?_
    exact hc7 _ _ _ _ hf

def f3_faultOfDay_69 (c7 : Int32 → Int32 → Int32 → gz_M → Option (Int32 × gz_M)) (x2 : Int32) (x3 : Int32) (x4 : Int32) (s0 : Int32) (M0 : gz_M) : Option (Int32 × gz_M) := if s0 = 0 then (some ((-1) - x4, M0)) else (if x3 = 3 then (f3_faultOfDay_101 c7 x2 x3 x4 1 M0) else (if x3 = 2 then (if x2 = 2 then (f3_faultOfDay_101 c7 x2 x3 x4 1 M0) else (f3_faultOfDay_101 c7 x2 x3 x4 0 M0)) else (f3_faultOfDay_101 c7 x2 x3 x4 0 M0)))
theorem b3_faultOfDay_69 {x : gz_X} {pf : Nat → Bool} {l : Launch} {r : Int32} {M' : gz_M} (X : gz_Ok x cX3_faultOfDay RX3 8 2 gz_cfC pf l) (hc : gx_cells x ≤ (gx_R x).cells ∧ gx_slots x ≤ (gx_R x).slots) (hE : gz_EI x cX3_faultOfDay .int r M') {c7 : Int32 → Int32 → Int32 → gz_M → Option (Int32 × gz_M)} (hc7 : ∀ (x2 : Int32) (x3 : Int32) (x4 : Int32) (M0 : gz_M), c7 x2 x3 x4 M0 = some (r, M') → gz_At x 7 [(1, .ref (gx_ad x 1)), (2, .int x2), (3, .int x3), (4, .int x4)] [] M0) : ∀ (x2 : Int32) (x3 : Int32) (x4 : Int32) (s0 : Int32) (M0 : gz_M), f3_faultOfDay_69 c7 x2 x3 x4 s0 M0 = some (r, M') → gz_At x 69 [(1, .ref (gx_ad x 1)), (2, .int x2), (3, .int x3), (4, .int x4)] [.int s0] M0 := by
  intro x2 x3 x4 s0 M0  hf
  rw [f3_faultOfDay_69] at hf
  refine gr_istore [(6, .int s0), (1, .ref (gx_ad x 1)), (2, .int x2), (3, .int x3), (4, .int x4)] X dX3_faultOfDay_69 rfl (by decide) rfl ?_
  refine gr_iload X dX3_faultOfDay_71 0 rfl ?_
  refine gr_if_ne 81 X dX3_faultOfDay_73 (by decide) (fun h1 => ?_) (fun h1 => ?_)
  · rw [if_pos h1] at hf
    refine gr_iconst (-1) X dX3_faultOfDay_76 (by decide) ?_
    refine gr_iload X dX3_faultOfDay_77 4 rfl ?_
    refine gr_isub X dX3_faultOfDay_79 ?_
    exact gz_EIu hE hf rfl dX3_faultOfDay_80
  · rw [if_neg h1] at hf
    refine gr_iload_n X dX3_faultOfDay_81 3 rfl rfl ?_
    refine gr_iconst 3 X dX3_faultOfDay_82 (by decide) ?_
    refine gr_icmp_eq 96 X dX3_faultOfDay_83 (by decide) (fun h2 => ?_) (fun h2 => ?_)
    · rw [if_pos h2] at hf
      refine gr_iconst 1 X dX3_faultOfDay_96 (by decide) ?_
      refine gr_goto 101 X dX3_faultOfDay_97 (by decide) ?_
      refine gr_sub (lv' := [(1, .ref (gx_ad x 1)), (2, .int x2), (3, .int x3), (4, .int x4)]) [1, 2, 3, 4] rfl ?_
      exact b3_faultOfDay_101 X hc hE hc7 _ _ _ _ _ hf
    · rw [if_neg h2] at hf
      refine gr_iload_n X dX3_faultOfDay_86 3 rfl rfl ?_
      refine gr_iconst 2 X dX3_faultOfDay_87 (by decide) ?_
      refine gr_icmp_ne 100 X dX3_faultOfDay_88 (by decide) (fun h3 => ?_) (fun h3 => ?_)
      · rw [if_pos h3] at hf
        refine gr_iload_n X dX3_faultOfDay_91 2 rfl rfl ?_
        refine gr_iconst 2 X dX3_faultOfDay_92 (by decide) ?_
        refine gr_icmp_ne 100 X dX3_faultOfDay_93 (by decide) (fun h4 => ?_) (fun h4 => ?_)
        · rw [if_pos h4] at hf
          refine gr_iconst 1 X dX3_faultOfDay_96 (by decide) ?_
          refine gr_goto 101 X dX3_faultOfDay_97 (by decide) ?_
          refine gr_sub (lv' := [(1, .ref (gx_ad x 1)), (2, .int x2), (3, .int x3), (4, .int x4)]) [1, 2, 3, 4] rfl ?_
          exact b3_faultOfDay_101 X hc hE hc7 _ _ _ _ _ hf
        · rw [if_neg h4] at hf
          refine gr_iconst 0 X dX3_faultOfDay_100 (by decide) ?_
          refine gr_sub (lv' := [(1, .ref (gx_ad x 1)), (2, .int x2), (3, .int x3), (4, .int x4)]) [1, 2, 3, 4] rfl ?_
          exact b3_faultOfDay_101 X hc hE hc7 _ _ _ _ _ hf
      · rw [if_neg h3] at hf
        refine gr_iconst 0 X dX3_faultOfDay_100 (by decide) ?_
        refine gr_sub (lv' := [(1, .ref (gx_ad x 1)), (2, .int x2), (3, .int x3), (4, .int x4)]) [1, 2, 3, 4] rfl ?_
        exact b3_faultOfDay_101 X hc hE hc7 _ _ _ _ _ hf

def f3_faultOfDay_34 (c7 : Int32 → Int32 → Int32 → gz_M → Option (Int32 × gz_M)) (x2 : Int32) (x3 : Int32) (x4 : Int32) (x5 : Int32) (M0 : gz_M) : Option (Int32 × gz_M) := if x3 = 0 then (if x2 = (-1) then (f3_faultOfDay_69 c7 x2 x3 x4 0 M0) else (f3_faultOfDay_69 c7 x2 x3 x4 1 M0)) else (if 3 ≤ x3 then (gz_bd2 (f3_isSign x5 M0) fun v4 M5 => f3_faultOfDay_69 c7 x2 x3 x4 v4 M5) else (gz_bd2 (f3_isDigit x5 M0) fun v7 M8 => f3_faultOfDay_69 c7 x2 x3 x4 v7 M8))
theorem b3_faultOfDay_34 {x : gz_X} {pf : Nat → Bool} {l : Launch} {r : Int32} {M' : gz_M} (X : gz_Ok x cX3_faultOfDay RX3 8 2 gz_cfC pf l) (hc : gx_cells x ≤ (gx_R x).cells ∧ gx_slots x ≤ (gx_R x).slots) (hE : gz_EI x cX3_faultOfDay .int r M') {c7 : Int32 → Int32 → Int32 → gz_M → Option (Int32 × gz_M)} (hc7 : ∀ (x2 : Int32) (x3 : Int32) (x4 : Int32) (M0 : gz_M), c7 x2 x3 x4 M0 = some (r, M') → gz_At x 7 [(1, .ref (gx_ad x 1)), (2, .int x2), (3, .int x3), (4, .int x4)] [] M0) : ∀ (x2 : Int32) (x3 : Int32) (x4 : Int32) (x5 : Int32) (M0 : gz_M), f3_faultOfDay_34 c7 x2 x3 x4 x5 M0 = some (r, M') → gz_At x 34 [(1, .ref (gx_ad x 1)), (2, .int x2), (3, .int x3), (4, .int x4), (5, .int x5)] [] M0 := by
  intro x2 x3 x4 x5 M0  hf
  rw [f3_faultOfDay_34] at hf
  refine gr_iload_n X dX3_faultOfDay_34 2 rfl rfl ?_
  refine gr_if_ne 51 X dX3_faultOfDay_35 (by decide) (fun h1 => ?_) (fun h1 => ?_)
  · rw [if_pos h1] at hf
    refine gr_iload_n X dX3_faultOfDay_38 1 rfl rfl ?_
    refine gr_iconst (-1) X dX3_faultOfDay_39 (by decide) ?_
    refine gr_icmp_eq 47 X dX3_faultOfDay_40 (by decide) (fun h2 => ?_) (fun h2 => ?_)
    · rw [if_pos h2] at hf
      refine gr_iconst 0 X dX3_faultOfDay_47 (by decide) ?_
      refine gr_goto 69 X dX3_faultOfDay_48 (by decide) ?_
      refine gr_sub (lv' := [(1, .ref (gx_ad x 1)), (2, .int x2), (3, .int x3), (4, .int x4)]) [0, 1, 2, 3] rfl ?_
      exact b3_faultOfDay_69 X hc hE hc7 _ _ _ _ _ hf
    · rw [if_neg h2] at hf
      refine gr_iconst 1 X dX3_faultOfDay_43 (by decide) ?_
      refine gr_goto 69 X dX3_faultOfDay_44 (by decide) ?_
      refine gr_sub (lv' := [(1, .ref (gx_ad x 1)), (2, .int x2), (3, .int x3), (4, .int x4)]) [0, 1, 2, 3] rfl ?_
      exact b3_faultOfDay_69 X hc hE hc7 _ _ _ _ _ hf
  · rw [if_neg h1] at hf
    refine gr_iload_n X dX3_faultOfDay_51 2 rfl rfl ?_
    refine gr_iconst 3 X dX3_faultOfDay_52 (by decide) ?_
    refine gr_icmp_ge 64 X dX3_faultOfDay_53 (by decide) (fun h3 => ?_) (fun h3 => ?_)
    · rw [if_pos h3] at hf
      refine gr_iload X dX3_faultOfDay_64 4 rfl ?_
      obtain ⟨v4, M5, q6, hf⟩ := gz_bd2e hf
      refine gr_callSI (asF := fun _ => [.int x5]) [.int x5] X (c3_isSign q6) rfl wm_RX3_35 rfl (by decide) (by decide) rfl (Nat.le_of_ble_eq_true rfl) hc dX3_faultOfDay_66 ?_
      refine gr_sub (lv' := [(1, .ref (gx_ad x 1)), (2, .int x2), (3, .int x3), (4, .int x4)]) [0, 1, 2, 3] rfl ?_
      exact b3_faultOfDay_69 X hc hE hc7 _ _ _ _ _ hf
    · rw [if_neg h3] at hf
      refine gr_iload X dX3_faultOfDay_56 4 rfl ?_
      obtain ⟨v7, M8, q9, hf⟩ := gz_bd2e hf
      refine gr_callSI (asF := fun _ => [.int x5]) [.int x5] X (c3_isDigit q9) rfl wm_RX3_42 rfl (by decide) (by decide) rfl (Nat.le_of_ble_eq_true rfl) hc dX3_faultOfDay_58 ?_
      refine gr_goto 69 X dX3_faultOfDay_61 (by decide) ?_
      refine gr_sub (lv' := [(1, .ref (gx_ad x 1)), (2, .int x2), (3, .int x3), (4, .int x4)]) [0, 1, 2, 3] rfl ?_
      exact b3_faultOfDay_69 X hc hE hc7 _ _ _ _ _ hf

def f3_faultOfDay_7 : Nat → Int32 → Int32 → Int32 → gz_M → Option (Int32 × gz_M)
  | 0, _, _, _, _ => none
  | n + 1, x2, x3, x4, M0 => if (M0.1 1 1) ≤ x4 then (if x3 = 0 then (some (0, M0)) else (some ((-1) - (M0.1 1 1), M0))) else (gz_bd2 (f10_get x4 M0) fun v3 M4 => if x3 = 0 then (gz_bd2 (f3_kindOfChange v3 M4) fun v7 M8 => f3_faultOfDay_34 (f3_faultOfDay_7 n) v7 x3 x4 v3 M8) else (f3_faultOfDay_34 (f3_faultOfDay_7 n) x2 x3 x4 v3 M4))
theorem b3_faultOfDay_7 {x : gz_X} {pf : Nat → Bool} {l : Launch} {r : Int32} {M' : gz_M} (X : gz_Ok x cX3_faultOfDay RX3 8 2 gz_cfC pf l) (hc : gx_cells x ≤ (gx_R x).cells ∧ gx_slots x ≤ (gx_R x).slots) (hE : gz_EI x cX3_faultOfDay .int r M') : ∀ (n : Nat) (x2 : Int32) (x3 : Int32) (x4 : Int32) (M0 : gz_M), f3_faultOfDay_7 n x2 x3 x4 M0 = some (r, M') → gz_At x 7 [(1, .ref (gx_ad x 1)), (2, .int x2), (3, .int x3), (4, .int x4)] [] M0 := by
  intro n
  induction n with
  | zero =>
    intro x2 x3 x4 M0  hf
    rw [f3_faultOfDay_7] at hf
    cases hf
  | succ n ih =>
    intro x2 x3 x4 M0  hf
    rw [f3_faultOfDay_7] at hf
    refine gr_iload X dX3_faultOfDay_7 3 rfl ?_
    refine gr_aload_n X dX3_faultOfDay_9 0 rfl rfl ?_
    refine gf10_1 X wf_RX3_18 dX3_faultOfDay_10 ?_
    refine gr_icmp_ge 122 X dX3_faultOfDay_13 (by decide) (fun h1 => ?_) (fun h1 => ?_)
    · rw [if_pos h1] at hf
      refine gr_iload_n X dX3_faultOfDay_122 2 rfl rfl ?_
      refine gr_if_ne 130 X dX3_faultOfDay_123 (by decide) (fun h2 => ?_) (fun h2 => ?_)
      · rw [if_pos h2] at hf
        refine gr_iconst 0 X dX3_faultOfDay_126 (by decide) ?_
        refine gr_goto 136 X dX3_faultOfDay_127 (by decide) ?_
        exact gz_EIu hE hf rfl dX3_faultOfDay_136
      · rw [if_neg h2] at hf
        refine gr_iconst (-1) X dX3_faultOfDay_130 (by decide) ?_
        refine gr_aload_n X dX3_faultOfDay_131 0 rfl rfl ?_
        refine gf10_1 X wf_RX3_18 dX3_faultOfDay_132 ?_
        refine gr_isub X dX3_faultOfDay_135 ?_
        exact gz_EIu hE hf rfl dX3_faultOfDay_136
    · rw [if_neg h1] at hf
      refine gr_aload_n X dX3_faultOfDay_16 0 rfl rfl ?_
      refine gr_iload X dX3_faultOfDay_17 3 rfl ?_
      obtain ⟨v3, M4, q5, hf⟩ := gz_bd2e hf
      refine gr_callI (asF := fun ad => [.ref (ad 1), .int x4]) [.int x4] X (c10_get q5) rfl wm_RX3_23 rfl (X.kd gk_C1).1 ((X.kd gk_C1).2 _ _ _ _) rfl (by decide) (by decide) rfl (Nat.le_of_ble_eq_true rfl) hc dX3_faultOfDay_19 ?_
      refine gr_istore [(5, .int v3), (1, .ref (gx_ad x 1)), (2, .int x2), (3, .int x3), (4, .int x4)] X dX3_faultOfDay_22 rfl (by decide) rfl ?_
      refine gr_iload_n X dX3_faultOfDay_24 3 rfl rfl ?_
      refine gr_if_ne 34 X dX3_faultOfDay_25 (by decide) (fun h6 => ?_) (fun h6 => ?_)
      · rw [if_pos h6] at hf
        refine gr_iload X dX3_faultOfDay_28 0 rfl ?_
        obtain ⟨v7, M8, q9, hf⟩ := gz_bd2e hf
        refine gr_callSI (asF := fun _ => [.int v3]) [.int v3] X (c3_kindOfChange q9) rfl wm_RX3_39 rfl (by decide) (by decide) rfl (Nat.le_of_ble_eq_true rfl) hc dX3_faultOfDay_30 ?_
        refine gr_istore_n [(2, .int v7), (5, .int v3), (1, .ref (gx_ad x 1)), (3, .int x3), (4, .int x4)] X dX3_faultOfDay_33 rfl rfl (by decide) rfl ?_
        refine gr_sub (lv' := [(1, .ref (gx_ad x 1)), (2, .int v7), (3, .int x3), (4, .int x4), (5, .int v3)]) [2, 0, 3, 4, 1] rfl ?_
        exact b3_faultOfDay_34 X hc hE ih _ _ _ _ _ hf
      · rw [if_neg h6] at hf
        refine gr_sub (lv' := [(1, .ref (gx_ad x 1)), (2, .int x2), (3, .int x3), (4, .int x4), (5, .int v3)]) [1, 2, 3, 4, 0] rfl ?_
        exact b3_faultOfDay_34 X hc hE ih _ _ _ _ _ hf

def f3_faultOfDay (M0 : gz_M) : Option (Int32 × gz_M) := f3_faultOfDay_7 gz_FU (-1) 0 0 M0
set_option maxRecDepth 100000 in
theorem c3_faultOfDay {pf : Nat → Bool} {l : Launch} {r : Int32} {M0 M' : gz_M} (hf : f3_faultOfDay M0 = some (r, M')) : gz_CI l gz_cfC yX3_faultOfDay cX3_faultOfDay 8 2 .int (fun ad => [.ref (ad 3), .ref (ad 1)]) pf M0 r M' := by
  refine gz_ofI (by decide +kernel) (fun _ => Nat.le_of_ble_eq_true rfl) (fun x X hc hE => ?_)
  show gz_At x 0 [(0, .ref (gx_ad x 3)), (1, .ref (gx_ad x 1))] [] M0
  unfold f3_faultOfDay at hf
  refine gr_iconst (-1) X dX3_faultOfDay_0 (by decide) ?_
  refine gr_istore_n [(2, .int (-1)), (0, .ref (gx_ad x 3)), (1, .ref (gx_ad x 1))] X dX3_faultOfDay_1 rfl rfl (by decide) rfl ?_
  refine gr_iconst 0 X dX3_faultOfDay_2 (by decide) ?_
  refine gr_istore_n [(3, .int 0), (2, .int (-1)), (0, .ref (gx_ad x 3)), (1, .ref (gx_ad x 1))] X dX3_faultOfDay_3 rfl rfl (by decide) rfl ?_
  refine gr_iconst 0 X dX3_faultOfDay_4 (by decide) ?_
  refine gr_istore [(4, .int 0), (3, .int 0), (2, .int (-1)), (0, .ref (gx_ad x 3)), (1, .ref (gx_ad x 1))] X dX3_faultOfDay_5 rfl (by decide) rfl ?_
  refine gr_sub (lv' := [(1, .ref (gx_ad x 1)), (2, .int (-1)), (3, .int 0), (4, .int 0)]) [4, 2, 1, 0] rfl ?_
  exact b3_faultOfDay_7 X hc hE _ _ _ _ _ hf

def f7_clear_7 (k : Nat) : Nat → Int32 → gz_M → Option (gz_M)
  | 0, _, _ => none
  | n + 1, x1, M0 => if 4 ≤ x1 then (some M0) else (gz_ck (gz_inb x1 4) <| gz_lt (gz_w M0 (k + 7) x1.toNatClampNeg 0) fun M3 => gz_ck (gz_inb x1 4) <| gz_lt (gz_w M3 (k + 8) x1.toNatClampNeg 0) fun M5 => gz_ck (gz_inb x1 4) <| gz_bd (fJ_fill ((k + 9) + 1 + x1.toNatClampNeg) 10 0 M5) fun M7 => gz_ck (gz_inb x1 4) <| gz_bd (fJ_fill ((k + 14) + 1 + x1.toNatClampNeg) 8 0 M7) fun M10 => gz_lt (x1 + 1) fun v12 => f7_clear_7 k n v12 M10)
theorem b7_clear_7 {x : gz_X} {pf : Nat → Bool} {l : Launch} {M' : gz_M} (X : gz_Ok x cX7_clear RX7 2 2 gz_cfC pf l) (hc : gx_cells x ≤ (gx_R x).cells ∧ gx_slots x ≤ (gx_R x).slots) (hE : gz_EV x cX7_clear M') {k : Nat} (hk : gz_IsX7 pf k) : ∀ (n : Nat) (x1 : Int32) (M0 : gz_M), f7_clear_7 k n x1 M0 = some M' → gz_At x 7 [(0, .ref (gx_ad x k)), (1, .int x1)] [] M0 := by
  intro n
  induction n with
  | zero =>
    intro x1 M0  hf
    rw [f7_clear_7] at hf
    cases hf
  | succ n ih =>
    intro x1 M0  hf
    rw [f7_clear_7] at hf
    refine gr_iload_n X dX7_clear_7 1 rfl rfl ?_
    refine gr_iconst 4 X dX7_clear_8 (by decide) ?_
    refine gr_icmp_ge 52 X dX7_clear_9 (by decide) (fun h1 => ?_) (fun h1 => ?_)
    · rw [if_pos h1] at hf
      exact gz_EVu hE hf dX7_clear_52
    · rw [if_neg h1] at hf
      refine gr_aload_n X dX7_clear_12 0 rfl rfl ?_
      refine gf7_7 X (gk_X7o hk) wf_RX7_35 dX7_clear_13 ?_
      refine gr_iload_n X dX7_clear_16 1 rfl rfl ?_
      refine gr_iconst 0 X dX7_clear_17 (by decide) ?_
      obtain ⟨h2, hf⟩ := gz_cke hf
      obtain ⟨M3, eM3, hf⟩ := gz_lte hf
      refine gr_iastore X (gk_X77 hk) (gz_inp h2) eM3 dX7_clear_18 ?_
      refine gr_aload_n X dX7_clear_19 0 rfl rfl ?_
      refine gf7_8 X (gk_X7o hk) wf_RX7_38 dX7_clear_20 ?_
      refine gr_iload_n X dX7_clear_23 1 rfl rfl ?_
      refine gr_iconst 0 X dX7_clear_24 (by decide) ?_
      obtain ⟨h4, hf⟩ := gz_cke hf
      obtain ⟨M5, eM5, hf⟩ := gz_lte hf
      refine gr_iastore X (gk_X78 hk) (gz_inp h4) eM5 dX7_clear_25 ?_
      refine gr_aload_n X dX7_clear_26 0 rfl rfl ?_
      refine gf7_9 X (gk_X7o hk) wf_RX7_43 dX7_clear_27 ?_
      refine gr_iload_n X dX7_clear_30 1 rfl rfl ?_
      obtain ⟨h6, hf⟩ := gz_cke hf
      refine gr_aaload X (gk_X79 hk) (gz_inp h6) dX7_clear_31 ?_
      refine gr_iconst 0 X dX7_clear_32 (by decide) ?_
      obtain ⟨M7, q8, hf⟩ := gz_bde hf
      refine gr_callSV (asF := fun ad => [.ref (ad ((k + 9) + 1 + x1.toNatClampNeg)), .int 0]) [.ref (gx_ad x ((k + 9) + 1 + x1.toNatClampNeg)), .int 0] X (cJ_fill (gk_X79r hk (gz_inl (gz_inp h6))) (by decide) q8) rfl wm_RX7_49 rfl (by decide) (by decide) rfl (Nat.le_of_ble_eq_true rfl) hc dX7_clear_33 ?_
      refine gr_aload_n X dX7_clear_36 0 rfl rfl ?_
      refine gf7_10 X (gk_X7o hk) wf_RX7_46 dX7_clear_37 ?_
      refine gr_iload_n X dX7_clear_40 1 rfl rfl ?_
      obtain ⟨h9, hf⟩ := gz_cke hf
      refine gr_aaload X (gk_X714 hk) (gz_inp h9) dX7_clear_41 ?_
      refine gr_iconst 0 X dX7_clear_42 (by decide) ?_
      obtain ⟨M10, q11, hf⟩ := gz_bde hf
      refine gr_callSV (asF := fun ad => [.ref (ad ((k + 14) + 1 + x1.toNatClampNeg)), .int 0]) [.ref (gx_ad x ((k + 14) + 1 + x1.toNatClampNeg)), .int 0] X (cJ_fill (gk_X714r hk (gz_inl (gz_inp h9))) (by decide) q11) rfl wm_RX7_49 rfl (by decide) (by decide) rfl (Nat.le_of_ble_eq_true rfl) hc dX7_clear_43 ?_
      obtain ⟨v12, ev12, hf⟩ := gz_lte hf
      refine gr_iinc 1 [(1, .int v12), (0, .ref (gx_ad x k))] X dX7_clear_46 1 rfl (by decide) ev12 (by decide) rfl ?_
      refine gr_goto 7 X dX7_clear_49 (by decide) ?_
      refine gr_sub (lv' := [(0, .ref (gx_ad x k)), (1, .int v12)]) [1, 0] rfl ?_
      exact ih _ _ hf

def f7_clear (k : Nat) (M0 : gz_M) : Option (gz_M) := gz_lt (gz_w M0 k 0 0) fun M1 => f7_clear_7 k gz_FU 0 M1
set_option maxRecDepth 100000 in
theorem c7_clear {pf : Nat → Bool} {l : Launch} {M0 M' : gz_M} {k : Nat} (hk : gz_IsX7 pf k) (hf : f7_clear k M0 = some M') : gz_CV l gz_cfC yX7_clear cX7_clear 2 2 (fun ad => [.ref (ad k)]) pf M0 M' := by
  refine gz_ofV (by decide +kernel) (fun _ => Nat.le_of_ble_eq_true rfl) (fun x X hc hE => ?_)
  show gz_At x 0 [(0, .ref (gx_ad x k))] [] M0
  unfold f7_clear at hf
  refine gr_aload_n X dX7_clear_0 0 rfl rfl ?_
  refine gr_iconst 0 X dX7_clear_1 (by decide) ?_
  obtain ⟨M1, eM1, hf⟩ := gz_lte hf
  refine gp7_0 X (gk_X7o hk) wf_RX7_9 eM1 dX7_clear_2 ?_
  refine gr_iconst 0 X dX7_clear_5 (by decide) ?_
  refine gr_istore_n [(1, .int 0), (0, .ref (gx_ad x k))] X dX7_clear_6 rfl rfl (by decide) rfl ?_
  refine gr_sub (lv' := [(0, .ref (gx_ad x k)), (1, .int 0)]) [1, 0] rfl ?_
  exact b7_clear_7 X hc hE hk _ _ _ hf

def f11_isMode (a0 : Int32) (M0 : gz_M) : Option (Int32 × gz_M) := if a0 < 0 then (some (0, M0)) else (if 4 ≤ a0 then (some (0, M0)) else (some (1, M0)))
set_option maxRecDepth 100000 in
theorem c11_isMode {pf : Nat → Bool} {l : Launch} {r : Int32} {M0 M' : gz_M} {a0 : Int32} (hf : f11_isMode a0 M0 = some (r, M')) : gz_CI l gz_cfC yX11_isMode cX11_isMode 1 1 .boolean (fun _ => [.int a0]) pf M0 r M' := by
  refine gz_ofI (by decide +kernel) (fun _ => Nat.le_of_ble_eq_true rfl) (fun x X hc hE => ?_)
  show gz_At x 0 [(0, .int a0)] [] M0
  unfold f11_isMode at hf
  refine gr_iload_n X dX11_isMode_0 0 rfl rfl ?_
  refine gr_if_lt 13 X dX11_isMode_1 (by decide) (fun h1 => ?_) (fun h1 => ?_)
  · rw [if_pos h1] at hf
    refine gr_iconst 0 X dX11_isMode_13 (by decide) ?_
    exact gz_EIu hE hf rfl dX11_isMode_14
  · rw [if_neg h1] at hf
    refine gr_iload_n X dX11_isMode_4 0 rfl rfl ?_
    refine gr_iconst 4 X dX11_isMode_5 (by decide) ?_
    refine gr_icmp_ge 13 X dX11_isMode_6 (by decide) (fun h2 => ?_) (fun h2 => ?_)
    · rw [if_pos h2] at hf
      refine gr_iconst 0 X dX11_isMode_13 (by decide) ?_
      exact gz_EIu hE hf rfl dX11_isMode_14
    · rw [if_neg h2] at hf
      refine gr_iconst 1 X dX11_isMode_9 (by decide) ?_
      refine gr_goto 14 X dX11_isMode_10 (by decide) ?_
      exact gz_EIu hE hf rfl dX11_isMode_14

def f7_atFirst (k : Nat) (a0 : Int32) (M0 : gz_M) : Option (Int32 × gz_M) := gz_bd2 (f11_isMode a0 M0) fun v1 M2 => if v1 = 0 then (some (0, M2)) else (gz_ck (gz_inb a0 4) <| some (M2.1 (k + 8) a0.toNatClampNeg, M2))
set_option maxRecDepth 100000 in
theorem c7_atFirst {pf : Nat → Bool} {l : Launch} {r : Int32} {M0 M' : gz_M} {k : Nat} {a0 : Int32} (hk : gz_IsX7 pf k) (hf : f7_atFirst k a0 M0 = some (r, M')) : gz_CI l gz_cfC yX7_atFirst cX7_atFirst 2 2 .int (fun ad => [.ref (ad k), .int a0]) pf M0 r M' := by
  refine gz_ofI (by decide +kernel) (fun _ => Nat.le_of_ble_eq_true rfl) (fun x X hc hE => ?_)
  show gz_At x 0 [(0, .ref (gx_ad x k)), (1, .int a0)] [] M0
  unfold f7_atFirst at hf
  refine gr_iload_n X dX7_atFirst_0 1 rfl rfl ?_
  obtain ⟨v1, M2, q3, hf⟩ := gz_bd2e hf
  refine gr_callSI (asF := fun _ => [.int a0]) [.int a0] X (c11_isMode q3) rfl wm_RX7_55 rfl (by decide) (by decide) rfl (Nat.le_of_ble_eq_true rfl) hc dX7_atFirst_1 ?_
  refine gr_if_eq 16 X dX7_atFirst_4 (by decide) (fun h4 => ?_) (fun h4 => ?_)
  · rw [if_pos h4] at hf
    refine gr_iconst 0 X dX7_atFirst_16 (by decide) ?_
    exact gz_EIu hE hf rfl dX7_atFirst_17
  · rw [if_neg h4] at hf
    refine gr_aload_n X dX7_atFirst_7 0 rfl rfl ?_
    refine gf7_8 X (gk_X7o hk) wf_RX7_38 dX7_atFirst_8 ?_
    refine gr_iload_n X dX7_atFirst_11 1 rfl rfl ?_
    obtain ⟨h5, hf⟩ := gz_cke hf
    refine gr_iaload X (gk_X78 hk) (gz_inp h5) dX7_atFirst_12 ?_
    refine gr_goto 17 X dX7_atFirst_13 (by decide) ?_
    exact gz_EIu hE hf rfl dX7_atFirst_17

def f7_after_12 (k : Nat) : Nat → Int32 → Int32 → Int32 → Int32 → gz_M → Option (Int32 × gz_M)
  | 0, _, _, _, _, _ => none
  | n + 1, x1, x2, x3, x4, M0 => if 10 ≤ x4 then (some (x3, M0)) else (if ((gz_shr x2 x4) &&& 1) = 0 then (gz_lt (x3 ||| 0) fun v3 => gz_lt (x4 + 1) fun v4 => f7_after_12 k n x1 x2 v3 v4 M0) else (gz_ck (gz_inb x1 4) <| gz_ck (gz_inb x4 10) <| gz_lt (x3 ||| (M0.1 ((k + 9) + 1 + x1.toNatClampNeg) x4.toNatClampNeg)) fun v7 => gz_lt (x4 + 1) fun v8 => f7_after_12 k n x1 x2 v7 v8 M0))
theorem b7_after_12 {x : gz_X} {pf : Nat → Bool} {l : Launch} {r : Int32} {M' : gz_M} (X : gz_Ok x cX7_after RX7 5 2 gz_cfC pf l) (hc : gx_cells x ≤ (gx_R x).cells ∧ gx_slots x ≤ (gx_R x).slots) (hE : gz_EI x cX7_after .int r M') {k : Nat} (hk : gz_IsX7 pf k) : ∀ (n : Nat) (x1 : Int32) (x2 : Int32) (x3 : Int32) (x4 : Int32) (M0 : gz_M), f7_after_12 k n x1 x2 x3 x4 M0 = some (r, M') → gz_At x 12 [(0, .ref (gx_ad x k)), (1, .int x1), (2, .int x2), (3, .int x3), (4, .int x4)] [] M0 := by
  intro n
  induction n with
  | zero =>
    intro x1 x2 x3 x4 M0  hf
    rw [f7_after_12] at hf
    cases hf
  | succ n ih =>
    intro x1 x2 x3 x4 M0  hf
    rw [f7_after_12] at hf
    refine gr_iload X dX7_after_12 4 rfl ?_
    refine gr_bipush 10 X dX7_after_14 (by decide) ?_
    refine gr_icmp_ge 50 X dX7_after_16 (by decide) (fun h1 => ?_) (fun h1 => ?_)
    · rw [if_pos h1] at hf
      refine gr_iload_n X dX7_after_50 3 rfl rfl ?_
      exact gz_EIu hE hf rfl dX7_after_51
    · rw [if_neg h1] at hf
      refine gr_iload_n X dX7_after_19 3 rfl rfl ?_
      refine gr_iload_n X dX7_after_20 2 rfl rfl ?_
      refine gr_iload X dX7_after_21 4 rfl ?_
      refine gr_ishr X dX7_after_23 ?_
      refine gr_iconst 1 X dX7_after_24 (by decide) ?_
      refine gr_iand X dX7_after_25 ?_
      refine gr_if_eq 41 X dX7_after_26 (by decide) (fun h2 => ?_) (fun h2 => ?_)
      · rw [if_pos h2] at hf
        refine gr_iconst 0 X dX7_after_41 (by decide) ?_
        refine gr_ior X dX7_after_42 ?_
        obtain ⟨v3, ev3, hf⟩ := gz_lte hf
        refine gr_istore_n [(3, .int v3), (0, .ref (gx_ad x k)), (1, .int x1), (2, .int x2), (4, .int x4)] X dX7_after_43 ev3 rfl (by decide) rfl ?_
        obtain ⟨v4, ev4, hf⟩ := gz_lte hf
        refine gr_iinc 1 [(4, .int v4), (3, .int v3), (0, .ref (gx_ad x k)), (1, .int x1), (2, .int x2)] X dX7_after_44 4 rfl (by decide) ev4 (by decide) rfl ?_
        refine gr_goto 12 X dX7_after_47 (by decide) ?_
        refine gr_sub (lv' := [(0, .ref (gx_ad x k)), (1, .int x1), (2, .int x2), (3, .int v3), (4, .int v4)]) [2, 3, 4, 1, 0] rfl ?_
        exact ih _ _ _ _ _ hf
      · rw [if_neg h2] at hf
        refine gr_aload_n X dX7_after_29 0 rfl rfl ?_
        refine gf7_9 X (gk_X7o hk) wf_RX7_43 dX7_after_30 ?_
        refine gr_iload_n X dX7_after_33 1 rfl rfl ?_
        obtain ⟨h5, hf⟩ := gz_cke hf
        refine gr_aaload X (gk_X79 hk) (gz_inp h5) dX7_after_34 ?_
        refine gr_iload X dX7_after_35 4 rfl ?_
        obtain ⟨h6, hf⟩ := gz_cke hf
        refine gr_iaload X (gk_X79r hk (gz_inl (gz_inp h5))) (gz_inp h6) dX7_after_37 ?_
        refine gr_goto 42 X dX7_after_38 (by decide) ?_
        refine gr_ior X dX7_after_42 ?_
        obtain ⟨v7, ev7, hf⟩ := gz_lte hf
        refine gr_istore_n [(3, .int v7), (0, .ref (gx_ad x k)), (1, .int x1), (2, .int x2), (4, .int x4)] X dX7_after_43 ev7 rfl (by decide) rfl ?_
        obtain ⟨v8, ev8, hf⟩ := gz_lte hf
        refine gr_iinc 1 [(4, .int v8), (3, .int v7), (0, .ref (gx_ad x k)), (1, .int x1), (2, .int x2)] X dX7_after_44 4 rfl (by decide) ev8 (by decide) rfl ?_
        refine gr_goto 12 X dX7_after_47 (by decide) ?_
        refine gr_sub (lv' := [(0, .ref (gx_ad x k)), (1, .int x1), (2, .int x2), (3, .int v7), (4, .int v8)]) [2, 3, 4, 1, 0] rfl ?_
        exact ih _ _ _ _ _ hf

def f7_after (k : Nat) (a0 : Int32) (a1 : Int32) (M0 : gz_M) : Option (Int32 × gz_M) := gz_bd2 (f11_isMode a0 M0) fun v1 M2 => if v1 = 0 then (some (0, M2)) else (f7_after_12 k gz_FU a0 a1 0 0 M2)
set_option maxRecDepth 100000 in
theorem c7_after {pf : Nat → Bool} {l : Launch} {r : Int32} {M0 M' : gz_M} {k : Nat} {a0 : Int32} {a1 : Int32} (hk : gz_IsX7 pf k) (hf : f7_after k a0 a1 M0 = some (r, M')) : gz_CI l gz_cfC yX7_after cX7_after 5 2 .int (fun ad => [.ref (ad k), .int a0, .int a1]) pf M0 r M' := by
  refine gz_ofI (by decide +kernel) (fun _ => Nat.le_of_ble_eq_true rfl) (fun x X hc hE => ?_)
  show gz_At x 0 [(0, .ref (gx_ad x k)), (1, .int a0), (2, .int a1)] [] M0
  unfold f7_after at hf
  refine gr_iconst 0 X dX7_after_0 (by decide) ?_
  refine gr_istore_n [(3, .int 0), (0, .ref (gx_ad x k)), (1, .int a0), (2, .int a1)] X dX7_after_1 rfl rfl (by decide) rfl ?_
  refine gr_iload_n X dX7_after_2 2 rfl rfl ?_
  obtain ⟨v1, M2, q3, hf⟩ := gz_bd2e hf
  refine gr_callSI (asF := fun _ => [.int a0]) [.int a0] X (c11_isMode q3) rfl wm_RX7_55 rfl (by decide) (by decide) rfl (Nat.le_of_ble_eq_true rfl) hc dX7_after_3 ?_
  refine gr_if_eq 50 X dX7_after_6 (by decide) (fun h4 => ?_) (fun h4 => ?_)
  · rw [if_pos h4] at hf
    refine gr_iload_n X dX7_after_50 0 rfl rfl ?_
    exact gz_EIu hE hf rfl dX7_after_51
  · rw [if_neg h4] at hf
    refine gr_iconst 0 X dX7_after_9 (by decide) ?_
    refine gr_istore [(4, .int 0), (3, .int 0), (0, .ref (gx_ad x k)), (1, .int a0), (2, .int a1)] X dX7_after_10 rfl (by decide) rfl ?_
    refine gr_sub (lv' := [(0, .ref (gx_ad x k)), (1, .int a0), (2, .int a1), (3, .int 0), (4, .int 0)]) [2, 3, 4, 1, 0] rfl ?_
    exact b7_after_12 X hc hE hk _ _ _ _ _ _ hf

def f7_takersOf (k : Nat) (a0 : Int32) (a1 : Int32) (M0 : gz_M) : Option (Int32 × gz_M) := gz_bd2 (f11_isMode a0 M0) fun v1 M2 => if v1 = 0 then (some (0, M2)) else (if a1 < 0 then (some (0, M2)) else (if 8 ≤ a1 then (some (0, M2)) else (gz_ck (gz_inb a0 4) <| gz_ck (gz_inb a1 8) <| some (M2.1 ((k + 14) + 1 + a0.toNatClampNeg) a1.toNatClampNeg, M2))))
set_option maxRecDepth 100000 in
theorem c7_takersOf {pf : Nat → Bool} {l : Launch} {r : Int32} {M0 M' : gz_M} {k : Nat} {a0 : Int32} {a1 : Int32} (hk : gz_IsX7 pf k) (hf : f7_takersOf k a0 a1 M0 = some (r, M')) : gz_CI l gz_cfC yX7_takersOf cX7_takersOf 3 2 .int (fun ad => [.ref (ad k), .int a0, .int a1]) pf M0 r M' := by
  refine gz_ofI (by decide +kernel) (fun _ => Nat.le_of_ble_eq_true rfl) (fun x X hc hE => ?_)
  show gz_At x 0 [(0, .ref (gx_ad x k)), (1, .int a0), (2, .int a1)] [] M0
  unfold f7_takersOf at hf
  refine gr_iload_n X dX7_takersOf_0 1 rfl rfl ?_
  obtain ⟨v1, M2, q3, hf⟩ := gz_bd2e hf
  refine gr_callSI (asF := fun _ => [.int a0]) [.int a0] X (c11_isMode q3) rfl wm_RX7_55 rfl (by decide) (by decide) rfl (Nat.le_of_ble_eq_true rfl) hc dX7_takersOf_1 ?_
  refine gr_if_eq 28 X dX7_takersOf_4 (by decide) (fun h4 => ?_) (fun h4 => ?_)
  · rw [if_pos h4] at hf
    refine gr_iconst 0 X dX7_takersOf_28 (by decide) ?_
    exact gz_EIu hE hf rfl dX7_takersOf_29
  · rw [if_neg h4] at hf
    refine gr_iload_n X dX7_takersOf_7 2 rfl rfl ?_
    refine gr_if_lt 28 X dX7_takersOf_8 (by decide) (fun h5 => ?_) (fun h5 => ?_)
    · rw [if_pos h5] at hf
      refine gr_iconst 0 X dX7_takersOf_28 (by decide) ?_
      exact gz_EIu hE hf rfl dX7_takersOf_29
    · rw [if_neg h5] at hf
      refine gr_iload_n X dX7_takersOf_11 2 rfl rfl ?_
      refine gr_bipush 8 X dX7_takersOf_12 (by decide) ?_
      refine gr_icmp_ge 28 X dX7_takersOf_14 (by decide) (fun h6 => ?_) (fun h6 => ?_)
      · rw [if_pos h6] at hf
        refine gr_iconst 0 X dX7_takersOf_28 (by decide) ?_
        exact gz_EIu hE hf rfl dX7_takersOf_29
      · rw [if_neg h6] at hf
        refine gr_aload_n X dX7_takersOf_17 0 rfl rfl ?_
        refine gf7_10 X (gk_X7o hk) wf_RX7_46 dX7_takersOf_18 ?_
        refine gr_iload_n X dX7_takersOf_21 1 rfl rfl ?_
        obtain ⟨h7, hf⟩ := gz_cke hf
        refine gr_aaload X (gk_X714 hk) (gz_inp h7) dX7_takersOf_22 ?_
        refine gr_iload_n X dX7_takersOf_23 2 rfl rfl ?_
        obtain ⟨h8, hf⟩ := gz_cke hf
        refine gr_iaload X (gk_X714r hk (gz_inl (gz_inp h7))) (gz_inp h8) dX7_takersOf_24 ?_
        refine gr_goto 29 X dX7_takersOf_25 (by decide) ?_
        exact gz_EIu hE hf rfl dX7_takersOf_29

def f7_signsTakenBy_5 (k : Nat) : Nat → Int32 → Int32 → Int32 → Int32 → gz_M → Option (Int32 × gz_M)
  | 0, _, _, _, _, _ => none
  | n + 1, x1, x2, x3, x4, M0 => if 8 ≤ x4 then (some (x3, M0)) else (gz_bd2 (f7_takersOf k x1 x4 M0) fun v2 M3 => if (x2 &&& v2) = 0 then (gz_lt (x3 ||| 0) fun v6 => gz_lt (x4 + 1) fun v7 => f7_signsTakenBy_5 k n x1 x2 v6 v7 M3) else (gz_lt (x3 ||| (gz_shl 1 x4)) fun v8 => gz_lt (x4 + 1) fun v9 => f7_signsTakenBy_5 k n x1 x2 v8 v9 M3))
theorem b7_signsTakenBy_5 {x : gz_X} {pf : Nat → Bool} {l : Launch} {r : Int32} {M' : gz_M} (X : gz_Ok x cX7_signsTakenBy RX7 5 3 gz_cfC pf l) (hc : gx_cells x ≤ (gx_R x).cells ∧ gx_slots x ≤ (gx_R x).slots) (hE : gz_EI x cX7_signsTakenBy .int r M') {k : Nat} (hk : gz_IsX7 pf k) : ∀ (n : Nat) (x1 : Int32) (x2 : Int32) (x3 : Int32) (x4 : Int32) (M0 : gz_M), f7_signsTakenBy_5 k n x1 x2 x3 x4 M0 = some (r, M') → gz_At x 5 [(0, .ref (gx_ad x k)), (1, .int x1), (2, .int x2), (3, .int x3), (4, .int x4)] [] M0 := by
  intro n
  induction n with
  | zero =>
    intro x1 x2 x3 x4 M0  hf
    rw [f7_signsTakenBy_5] at hf
    cases hf
  | succ n ih =>
    intro x1 x2 x3 x4 M0  hf
    rw [f7_signsTakenBy_5] at hf
    refine gr_iload X dX7_signsTakenBy_5 4 rfl ?_
    refine gr_bipush 8 X dX7_signsTakenBy_7 (by decide) ?_
    refine gr_icmp_ge 41 X dX7_signsTakenBy_9 (by decide) (fun h1 => ?_) (fun h1 => ?_)
    · rw [if_pos h1] at hf
      refine gr_iload_n X dX7_signsTakenBy_41 3 rfl rfl ?_
      exact gz_EIu hE hf rfl dX7_signsTakenBy_42
    · rw [if_neg h1] at hf
      refine gr_iload_n X dX7_signsTakenBy_12 3 rfl rfl ?_
      refine gr_iload_n X dX7_signsTakenBy_13 2 rfl rfl ?_
      refine gr_aload_n X dX7_signsTakenBy_14 0 rfl rfl ?_
      refine gr_iload_n X dX7_signsTakenBy_15 1 rfl rfl ?_
      refine gr_iload X dX7_signsTakenBy_16 4 rfl ?_
      obtain ⟨v2, M3, q4, hf⟩ := gz_bd2e hf
      refine gr_callI (asF := fun ad => [.ref (ad k), .int x1, .int x4]) [.int x1, .int x4] X (c7_takersOf hk q4) rfl wm_RX7_59 rfl (X.kd (gk_X7o hk)).1 ((X.kd (gk_X7o hk)).2 _ _ _ _) rfl (by decide) (by decide) rfl (Nat.le_of_ble_eq_true rfl) hc dX7_signsTakenBy_18 ?_
      refine gr_iand X dX7_signsTakenBy_21 ?_
      refine gr_if_eq 32 X dX7_signsTakenBy_22 (by decide) (fun h5 => ?_) (fun h5 => ?_)
      · rw [if_pos h5] at hf
        refine gr_iconst 0 X dX7_signsTakenBy_32 (by decide) ?_
        refine gr_ior X dX7_signsTakenBy_33 ?_
        obtain ⟨v6, ev6, hf⟩ := gz_lte hf
        refine gr_istore_n [(3, .int v6), (0, .ref (gx_ad x k)), (1, .int x1), (2, .int x2), (4, .int x4)] X dX7_signsTakenBy_34 ev6 rfl (by decide) rfl ?_
        obtain ⟨v7, ev7, hf⟩ := gz_lte hf
        refine gr_iinc 1 [(4, .int v7), (3, .int v6), (0, .ref (gx_ad x k)), (1, .int x1), (2, .int x2)] X dX7_signsTakenBy_35 4 rfl (by decide) ev7 (by decide) rfl ?_
        refine gr_goto 5 X dX7_signsTakenBy_38 (by decide) ?_
        refine gr_sub (lv' := [(0, .ref (gx_ad x k)), (1, .int x1), (2, .int x2), (3, .int v6), (4, .int v7)]) [2, 3, 4, 1, 0] rfl ?_
        exact ih _ _ _ _ _ hf
      · rw [if_neg h5] at hf
        refine gr_iconst 1 X dX7_signsTakenBy_25 (by decide) ?_
        refine gr_iload X dX7_signsTakenBy_26 4 rfl ?_
        refine gr_ishl X dX7_signsTakenBy_28 ?_
        refine gr_goto 33 X dX7_signsTakenBy_29 (by decide) ?_
        refine gr_ior X dX7_signsTakenBy_33 ?_
        obtain ⟨v8, ev8, hf⟩ := gz_lte hf
        refine gr_istore_n [(3, .int v8), (0, .ref (gx_ad x k)), (1, .int x1), (2, .int x2), (4, .int x4)] X dX7_signsTakenBy_34 ev8 rfl (by decide) rfl ?_
        obtain ⟨v9, ev9, hf⟩ := gz_lte hf
        refine gr_iinc 1 [(4, .int v9), (3, .int v8), (0, .ref (gx_ad x k)), (1, .int x1), (2, .int x2)] X dX7_signsTakenBy_35 4 rfl (by decide) ev9 (by decide) rfl ?_
        refine gr_goto 5 X dX7_signsTakenBy_38 (by decide) ?_
        refine gr_sub (lv' := [(0, .ref (gx_ad x k)), (1, .int x1), (2, .int x2), (3, .int v8), (4, .int v9)]) [2, 3, 4, 1, 0] rfl ?_
        exact ih _ _ _ _ _ hf

def f7_signsTakenBy (k : Nat) (a0 : Int32) (a1 : Int32) (M0 : gz_M) : Option (Int32 × gz_M) := f7_signsTakenBy_5 k gz_FU a0 a1 0 0 M0
set_option maxRecDepth 100000 in
theorem c7_signsTakenBy {pf : Nat → Bool} {l : Launch} {r : Int32} {M0 M' : gz_M} {k : Nat} {a0 : Int32} {a1 : Int32} (hk : gz_IsX7 pf k) (hf : f7_signsTakenBy k a0 a1 M0 = some (r, M')) : gz_CI l gz_cfC yX7_signsTakenBy cX7_signsTakenBy 5 3 .int (fun ad => [.ref (ad k), .int a0, .int a1]) pf M0 r M' := by
  refine gz_ofI (by decide +kernel) (fun _ => Nat.le_of_ble_eq_true rfl) (fun x X hc hE => ?_)
  show gz_At x 0 [(0, .ref (gx_ad x k)), (1, .int a0), (2, .int a1)] [] M0
  unfold f7_signsTakenBy at hf
  refine gr_iconst 0 X dX7_signsTakenBy_0 (by decide) ?_
  refine gr_istore_n [(3, .int 0), (0, .ref (gx_ad x k)), (1, .int a0), (2, .int a1)] X dX7_signsTakenBy_1 rfl rfl (by decide) rfl ?_
  refine gr_iconst 0 X dX7_signsTakenBy_2 (by decide) ?_
  refine gr_istore [(4, .int 0), (3, .int 0), (0, .ref (gx_ad x k)), (1, .int a0), (2, .int a1)] X dX7_signsTakenBy_3 rfl (by decide) rfl ?_
  refine gr_sub (lv' := [(0, .ref (gx_ad x k)), (1, .int a0), (2, .int a1), (3, .int 0), (4, .int 0)]) [2, 3, 4, 1, 0] rfl ?_
  exact b7_signsTakenBy_5 X hc hE hk _ _ _ _ _ _ hf

def f7_standing_13 (k : Nat) (k1 : Nat) : Nat → Int32 → Int32 → Int32 → Int32 → Int32 → gz_M → Option (Int32 × gz_M)
  | 0, _, _, _, _, _, _ => none
  | n + 1, x1, x4, x5, x6, x7, M0 => if x4 ≤ x7 then (some (x6, M0)) else (gz_bd2 (f5_get k1 x7 M0) fun v2 M3 => gz_bd2 (f7_takersOf k x1 v2 M3) fun v5 M6 => gz_lt (x5 &&& v5) fun v8 => gz_bd2 (f7_after k x1 v8 M6) fun v9 M10 => gz_lt (x7 + 1) fun v12 => f7_standing_13 k k1 n x1 x4 v9 v8 v12 M10)
theorem b7_standing_13 {x : gz_X} {pf : Nat → Bool} {l : Launch} {r : Int32} {M' : gz_M} (X : gz_Ok x cX7_standing RX7 8 3 gz_cfC pf l) (hc : gx_cells x ≤ (gx_R x).cells ∧ gx_slots x ≤ (gx_R x).slots) (hE : gz_EI x cX7_standing .int r M') {k : Nat} {k1 : Nat} (hk : gz_IsX7 pf k) (hk1 : gz_IsX5 pf k1) : ∀ (n : Nat) (x1 : Int32) (x4 : Int32) (x5 : Int32) (x6 : Int32) (x7 : Int32) (M0 : gz_M), f7_standing_13 k k1 n x1 x4 x5 x6 x7 M0 = some (r, M') → gz_At x 13 [(0, .ref (gx_ad x k)), (1, .int x1), (2, .ref (gx_ad x k1)), (4, .int x4), (5, .int x5), (6, .int x6), (7, .int x7)] [] M0 := by
  intro n
  induction n with
  | zero =>
    intro x1 x4 x5 x6 x7 M0  hf
    rw [f7_standing_13] at hf
    cases hf
  | succ n ih =>
    intro x1 x4 x5 x6 x7 M0  hf
    rw [f7_standing_13] at hf
    refine gr_iload X dX7_standing_13 6 rfl ?_
    refine gr_iload X dX7_standing_15 3 rfl ?_
    refine gr_icmp_ge 51 X dX7_standing_17 (by decide) (fun h1 => ?_) (fun h1 => ?_)
    · rw [if_pos h1] at hf
      refine gr_iload X dX7_standing_51 5 rfl ?_
      exact gz_EIu hE hf rfl dX7_standing_53
    · rw [if_neg h1] at hf
      refine gr_iload X dX7_standing_20 4 rfl ?_
      refine gr_aload_n X dX7_standing_22 0 rfl rfl ?_
      refine gr_iload_n X dX7_standing_23 1 rfl rfl ?_
      refine gr_aload_n X dX7_standing_24 2 rfl rfl ?_
      refine gr_iload X dX7_standing_25 6 rfl ?_
      obtain ⟨v2, M3, q4, hf⟩ := gz_bd2e hf
      refine gr_callI (asF := fun ad => [.ref (ad k1), .int x7]) [.int x7] X (c5_get hk1 q4) rfl wm_RX7_67 rfl (X.kd (gk_X5o hk1)).1 ((X.kd (gk_X5o hk1)).2 _ _ _ _) rfl (by decide) (by decide) rfl (Nat.le_of_ble_eq_true rfl) hc dX7_standing_27 ?_
      obtain ⟨v5, M6, q7, hf⟩ := gz_bd2e hf
      refine gr_callI (asF := fun ad => [.ref (ad k), .int x1, .int v2]) [.int x1, .int v2] X (c7_takersOf hk q7) rfl wm_RX7_59 rfl (X.kd (gk_X7o hk)).1 ((X.kd (gk_X7o hk)).2 _ _ _ _) rfl (by decide) (by decide) rfl (Nat.le_of_ble_eq_true rfl) hc dX7_standing_30 ?_
      refine gr_iand X dX7_standing_33 ?_
      obtain ⟨v8, ev8, hf⟩ := gz_lte hf
      refine gr_istore [(6, .int v8), (0, .ref (gx_ad x k)), (1, .int x1), (2, .ref (gx_ad x k1)), (4, .int x4), (5, .int x5), (7, .int x7)] X dX7_standing_34 ev8 (by decide) rfl ?_
      refine gr_aload_n X dX7_standing_36 1 rfl rfl ?_
      refine gr_iload_n X dX7_standing_37 2 rfl rfl ?_
      refine gr_iload X dX7_standing_38 0 rfl ?_
      obtain ⟨v9, M10, q11, hf⟩ := gz_bd2e hf
      refine gr_callI (asF := fun ad => [.ref (ad k), .int x1, .int v8]) [.int x1, .int v8] X (c7_after hk q11) rfl wm_RX7_72 rfl (X.kd (gk_X7o hk)).1 ((X.kd (gk_X7o hk)).2 _ _ _ _) rfl (by decide) (by decide) rfl (Nat.le_of_ble_eq_true rfl) hc dX7_standing_40 ?_
      refine gr_istore [(5, .int v9), (6, .int v8), (0, .ref (gx_ad x k)), (1, .int x1), (2, .ref (gx_ad x k1)), (4, .int x4), (7, .int x7)] X dX7_standing_43 rfl (by decide) rfl ?_
      obtain ⟨v12, ev12, hf⟩ := gz_lte hf
      refine gr_iinc 1 [(7, .int v12), (5, .int v9), (6, .int v8), (0, .ref (gx_ad x k)), (1, .int x1), (2, .ref (gx_ad x k1)), (4, .int x4)] X dX7_standing_45 6 rfl (by decide) ev12 (by decide) rfl ?_
      refine gr_goto 13 X dX7_standing_48 (by decide) ?_
      refine gr_sub (lv' := [(0, .ref (gx_ad x k)), (1, .int x1), (2, .ref (gx_ad x k1)), (4, .int x4), (5, .int v9), (6, .int v8), (7, .int v12)]) [3, 4, 5, 6, 1, 2, 0] rfl ?_
      exact ih _ _ _ _ _ _ hf

def f7_standing (k : Nat) (k1 : Nat) (a0 : Int32) (a2 : Int32) (a3 : Int32) (M0 : gz_M) : Option (Int32 × gz_M) := gz_bd2 (f7_atFirst k a0 M0) fun v1 M2 => f7_standing_13 k k1 gz_FU a0 a3 v1 0 a2 M2
set_option maxRecDepth 100000 in
theorem c7_standing {pf : Nat → Bool} {l : Launch} {r : Int32} {M0 M' : gz_M} {k : Nat} {k1 : Nat} {a0 : Int32} {a2 : Int32} {a3 : Int32} (hk : gz_IsX7 pf k) (hk1 : gz_IsX5 pf k1) (hf : f7_standing k k1 a0 a2 a3 M0 = some (r, M')) : gz_CI l gz_cfC yX7_standing cX7_standing 8 3 .int (fun ad => [.ref (ad k), .int a0, .ref (ad k1), .int a2, .int a3]) pf M0 r M' := by
  refine gz_ofI (by decide +kernel) (fun _ => Nat.le_of_ble_eq_true rfl) (fun x X hc hE => ?_)
  show gz_At x 0 [(0, .ref (gx_ad x k)), (1, .int a0), (2, .ref (gx_ad x k1)), (3, .int a2), (4, .int a3)] [] M0
  unfold f7_standing at hf
  refine gr_aload_n X dX7_standing_0 0 rfl rfl ?_
  refine gr_iload_n X dX7_standing_1 1 rfl rfl ?_
  obtain ⟨v1, M2, q3, hf⟩ := gz_bd2e hf
  refine gr_callI (asF := fun ad => [.ref (ad k), .int a0]) [.int a0] X (c7_atFirst hk q3) rfl wm_RX7_63 rfl (X.kd (gk_X7o hk)).1 ((X.kd (gk_X7o hk)).2 _ _ _ _) rfl (by decide) (by decide) rfl (Nat.le_of_ble_eq_true rfl) hc dX7_standing_2 ?_
  refine gr_istore [(5, .int v1), (0, .ref (gx_ad x k)), (1, .int a0), (2, .ref (gx_ad x k1)), (3, .int a2), (4, .int a3)] X dX7_standing_5 rfl (by decide) rfl ?_
  refine gr_iconst 0 X dX7_standing_7 (by decide) ?_
  refine gr_istore [(6, .int 0), (5, .int v1), (0, .ref (gx_ad x k)), (1, .int a0), (2, .ref (gx_ad x k1)), (3, .int a2), (4, .int a3)] X dX7_standing_8 rfl (by decide) rfl ?_
  refine gr_iload_n X dX7_standing_10 5 rfl rfl ?_
  refine gr_istore [(7, .int a2), (6, .int 0), (5, .int v1), (0, .ref (gx_ad x k)), (1, .int a0), (2, .ref (gx_ad x k1)), (3, .int a2), (4, .int a3)] X dX7_standing_11 rfl (by decide) rfl ?_
  refine gr_sub (lv' := [(0, .ref (gx_ad x k)), (1, .int a0), (2, .ref (gx_ad x k1)), (4, .int a3), (5, .int v1), (6, .int 0), (7, .int a2)]) [3, 4, 5, 7, 2, 1, 0] rfl ?_
  exact b7_standing_13 X hc hE hk hk1 _ _ _ _ _ _ _ hf

def f7_winner_2 (k : Nat) : Nat → Int32 → Int32 → Int32 → gz_M → Option (Int32 × gz_M)
  | 0, _, _, _, _ => none
  | n + 1, x1, x2, x3, M0 => if (M0.1 k 0) ≤ x3 then (some ((-1), M0)) else (gz_ck (gz_inb x3 8) <| if (M0.1 (k + 1) x3.toNatClampNeg) = x1 then (gz_ck (gz_inb x3 8) <| if ((M0.1 (k + 5) x3.toNatClampNeg) &&& x2) = 0 then (gz_lt (x3 + 1) fun v6 => f7_winner_2 k n x1 x2 v6 M0) else (some (x3, M0))) else (gz_lt (x3 + 1) fun v7 => f7_winner_2 k n x1 x2 v7 M0))
theorem b7_winner_2 {x : gz_X} {pf : Nat → Bool} {l : Launch} {r : Int32} {M' : gz_M} (X : gz_Ok x cX7_winner RX7 4 1 gz_cfC pf l) (hc : gx_cells x ≤ (gx_R x).cells ∧ gx_slots x ≤ (gx_R x).slots) (hE : gz_EI x cX7_winner .int r M') {k : Nat} (hk : gz_IsX7 pf k) : ∀ (n : Nat) (x1 : Int32) (x2 : Int32) (x3 : Int32) (M0 : gz_M), f7_winner_2 k n x1 x2 x3 M0 = some (r, M') → gz_At x 2 [(0, .ref (gx_ad x k)), (1, .int x1), (2, .int x2), (3, .int x3)] [] M0 := by
  intro n
  induction n with
  | zero =>
    intro x1 x2 x3 M0  hf
    rw [f7_winner_2] at hf
    cases hf
  | succ n ih =>
    intro x1 x2 x3 M0  hf
    rw [f7_winner_2] at hf
    refine gr_iload_n X dX7_winner_2 3 rfl rfl ?_
    refine gr_aload_n X dX7_winner_3 0 rfl rfl ?_
    refine gf7_0 X (gk_X7o hk) wf_RX7_9 dX7_winner_4 ?_
    refine gr_icmp_ge 39 X dX7_winner_7 (by decide) (fun h1 => ?_) (fun h1 => ?_)
    · rw [if_pos h1] at hf
      refine gr_iconst (-1) X dX7_winner_39 (by decide) ?_
      exact gz_EIu hE hf rfl dX7_winner_40
    · rw [if_neg h1] at hf
      refine gr_aload_n X dX7_winner_10 0 rfl rfl ?_
      refine gf7_1 X (gk_X7o hk) wf_RX7_15 dX7_winner_11 ?_
      refine gr_iload_n X dX7_winner_14 3 rfl rfl ?_
      obtain ⟨h2, hf⟩ := gz_cke hf
      refine gr_iaload X (gk_X71 hk) (gz_inp h2) dX7_winner_15 ?_
      refine gr_iload_n X dX7_winner_16 1 rfl rfl ?_
      refine gr_icmp_ne 33 X dX7_winner_17 (by decide) (fun h3 => ?_) (fun h3 => ?_)
      · rw [if_pos h3] at hf
        refine gr_aload_n X dX7_winner_20 0 rfl rfl ?_
        refine gf7_5 X (gk_X7o hk) wf_RX7_28 dX7_winner_21 ?_
        refine gr_iload_n X dX7_winner_24 3 rfl rfl ?_
        obtain ⟨h4, hf⟩ := gz_cke hf
        refine gr_iaload X (gk_X75 hk) (gz_inp h4) dX7_winner_25 ?_
        refine gr_iload_n X dX7_winner_26 2 rfl rfl ?_
        refine gr_iand X dX7_winner_27 ?_
        refine gr_if_eq 33 X dX7_winner_28 (by decide) (fun h5 => ?_) (fun h5 => ?_)
        · rw [if_pos h5] at hf
          obtain ⟨v6, ev6, hf⟩ := gz_lte hf
          refine gr_iinc 1 [(3, .int v6), (0, .ref (gx_ad x k)), (1, .int x1), (2, .int x2)] X dX7_winner_33 3 rfl (by decide) ev6 (by decide) rfl ?_
          refine gr_goto 2 X dX7_winner_36 (by decide) ?_
          refine gr_sub (lv' := [(0, .ref (gx_ad x k)), (1, .int x1), (2, .int x2), (3, .int v6)]) [1, 2, 3, 0] rfl ?_
          exact ih _ _ _ _ hf
        · rw [if_neg h5] at hf
          refine gr_iload_n X dX7_winner_31 3 rfl rfl ?_
          exact gz_EIu hE hf rfl dX7_winner_32
      · rw [if_neg h3] at hf
        obtain ⟨v7, ev7, hf⟩ := gz_lte hf
        refine gr_iinc 1 [(3, .int v7), (0, .ref (gx_ad x k)), (1, .int x1), (2, .int x2)] X dX7_winner_33 3 rfl (by decide) ev7 (by decide) rfl ?_
        refine gr_goto 2 X dX7_winner_36 (by decide) ?_
        refine gr_sub (lv' := [(0, .ref (gx_ad x k)), (1, .int x1), (2, .int x2), (3, .int v7)]) [1, 2, 3, 0] rfl ?_
        exact ih _ _ _ _ hf

def f7_winner (k : Nat) (a0 : Int32) (a1 : Int32) (M0 : gz_M) : Option (Int32 × gz_M) := f7_winner_2 k gz_FU a0 a1 0 M0
set_option maxRecDepth 100000 in
theorem c7_winner {pf : Nat → Bool} {l : Launch} {r : Int32} {M0 M' : gz_M} {k : Nat} {a0 : Int32} {a1 : Int32} (hk : gz_IsX7 pf k) (hf : f7_winner k a0 a1 M0 = some (r, M')) : gz_CI l gz_cfC yX7_winner cX7_winner 4 1 .int (fun ad => [.ref (ad k), .int a0, .int a1]) pf M0 r M' := by
  refine gz_ofI (by decide +kernel) (fun _ => Nat.le_of_ble_eq_true rfl) (fun x X hc hE => ?_)
  show gz_At x 0 [(0, .ref (gx_ad x k)), (1, .int a0), (2, .int a1)] [] M0
  unfold f7_winner at hf
  refine gr_iconst 0 X dX7_winner_0 (by decide) ?_
  refine gr_istore_n [(3, .int 0), (0, .ref (gx_ad x k)), (1, .int a0), (2, .int a1)] X dX7_winner_1 rfl rfl (by decide) rfl ?_
  refine gr_sub (lv' := [(0, .ref (gx_ad x k)), (1, .int a0), (2, .int a1), (3, .int 0)]) [1, 2, 3, 0] rfl ?_
  exact b7_winner_2 X hc hE hk _ _ _ _ _ hf

def f7_matching_5 (k : Nat) : Nat → Int32 → Int32 → Int32 → Int32 → gz_M → Option (Int32 × gz_M)
  | 0, _, _, _, _, _ => none
  | n + 1, x1, x2, x3, x4, M0 => if (M0.1 k 0) ≤ x4 then (some (x3, M0)) else (gz_ck (gz_inb x4 8) <| if (M0.1 (k + 1) x4.toNatClampNeg) = x1 then (gz_ck (gz_inb x4 8) <| if ((M0.1 (k + 5) x4.toNatClampNeg) &&& x2) = 0 then (gz_lt (x3 ||| 0) fun v6 => gz_lt (x4 + 1) fun v7 => f7_matching_5 k n x1 x2 v6 v7 M0) else (gz_lt (x3 ||| (gz_shl 1 x4)) fun v8 => gz_lt (x4 + 1) fun v9 => f7_matching_5 k n x1 x2 v8 v9 M0)) else (gz_lt (x3 ||| 0) fun v10 => gz_lt (x4 + 1) fun v11 => f7_matching_5 k n x1 x2 v10 v11 M0))
theorem b7_matching_5 {x : gz_X} {pf : Nat → Bool} {l : Launch} {r : Int32} {M' : gz_M} (X : gz_Ok x cX7_matching RX7 5 1 gz_cfC pf l) (hc : gx_cells x ≤ (gx_R x).cells ∧ gx_slots x ≤ (gx_R x).slots) (hE : gz_EI x cX7_matching .int r M') {k : Nat} (hk : gz_IsX7 pf k) : ∀ (n : Nat) (x1 : Int32) (x2 : Int32) (x3 : Int32) (x4 : Int32) (M0 : gz_M), f7_matching_5 k n x1 x2 x3 x4 M0 = some (r, M') → gz_At x 5 [(0, .ref (gx_ad x k)), (1, .int x1), (2, .int x2), (3, .int x3), (4, .int x4)] [] M0 := by
  intro n
  induction n with
  | zero =>
    intro x1 x2 x3 x4 M0  hf
    rw [f7_matching_5] at hf
    cases hf
  | succ n ih =>
    intro x1 x2 x3 x4 M0  hf
    rw [f7_matching_5] at hf
    refine gr_iload X dX7_matching_5 4 rfl ?_
    refine gr_aload_n X dX7_matching_7 0 rfl rfl ?_
    refine gf7_0 X (gk_X7o hk) wf_RX7_9 dX7_matching_8 ?_
    refine gr_icmp_ge 54 X dX7_matching_11 (by decide) (fun h1 => ?_) (fun h1 => ?_)
    · rw [if_pos h1] at hf
      refine gr_iload_n X dX7_matching_54 3 rfl rfl ?_
      exact gz_EIu hE hf rfl dX7_matching_55
    · rw [if_neg h1] at hf
      refine gr_iload_n X dX7_matching_14 3 rfl rfl ?_
      refine gr_aload_n X dX7_matching_15 0 rfl rfl ?_
      refine gf7_1 X (gk_X7o hk) wf_RX7_15 dX7_matching_16 ?_
      refine gr_iload X dX7_matching_19 4 rfl ?_
      obtain ⟨h2, hf⟩ := gz_cke hf
      refine gr_iaload X (gk_X71 hk) (gz_inp h2) dX7_matching_21 ?_
      refine gr_iload_n X dX7_matching_22 1 rfl rfl ?_
      refine gr_icmp_ne 45 X dX7_matching_23 (by decide) (fun h3 => ?_) (fun h3 => ?_)
      · rw [if_pos h3] at hf
        refine gr_aload_n X dX7_matching_26 0 rfl rfl ?_
        refine gf7_5 X (gk_X7o hk) wf_RX7_28 dX7_matching_27 ?_
        refine gr_iload X dX7_matching_30 4 rfl ?_
        obtain ⟨h4, hf⟩ := gz_cke hf
        refine gr_iaload X (gk_X75 hk) (gz_inp h4) dX7_matching_32 ?_
        refine gr_iload_n X dX7_matching_33 2 rfl rfl ?_
        refine gr_iand X dX7_matching_34 ?_
        refine gr_if_eq 45 X dX7_matching_35 (by decide) (fun h5 => ?_) (fun h5 => ?_)
        · rw [if_pos h5] at hf
          refine gr_iconst 0 X dX7_matching_45 (by decide) ?_
          refine gr_ior X dX7_matching_46 ?_
          obtain ⟨v6, ev6, hf⟩ := gz_lte hf
          refine gr_istore_n [(3, .int v6), (0, .ref (gx_ad x k)), (1, .int x1), (2, .int x2), (4, .int x4)] X dX7_matching_47 ev6 rfl (by decide) rfl ?_
          obtain ⟨v7, ev7, hf⟩ := gz_lte hf
          refine gr_iinc 1 [(4, .int v7), (3, .int v6), (0, .ref (gx_ad x k)), (1, .int x1), (2, .int x2)] X dX7_matching_48 4 rfl (by decide) ev7 (by decide) rfl ?_
          refine gr_goto 5 X dX7_matching_51 (by decide) ?_
          refine gr_sub (lv' := [(0, .ref (gx_ad x k)), (1, .int x1), (2, .int x2), (3, .int v6), (4, .int v7)]) [2, 3, 4, 1, 0] rfl ?_
          exact ih _ _ _ _ _ hf
        · rw [if_neg h5] at hf
          refine gr_iconst 1 X dX7_matching_38 (by decide) ?_
          refine gr_iload X dX7_matching_39 4 rfl ?_
          refine gr_ishl X dX7_matching_41 ?_
          refine gr_goto 46 X dX7_matching_42 (by decide) ?_
          refine gr_ior X dX7_matching_46 ?_
          obtain ⟨v8, ev8, hf⟩ := gz_lte hf
          refine gr_istore_n [(3, .int v8), (0, .ref (gx_ad x k)), (1, .int x1), (2, .int x2), (4, .int x4)] X dX7_matching_47 ev8 rfl (by decide) rfl ?_
          obtain ⟨v9, ev9, hf⟩ := gz_lte hf
          refine gr_iinc 1 [(4, .int v9), (3, .int v8), (0, .ref (gx_ad x k)), (1, .int x1), (2, .int x2)] X dX7_matching_48 4 rfl (by decide) ev9 (by decide) rfl ?_
          refine gr_goto 5 X dX7_matching_51 (by decide) ?_
          refine gr_sub (lv' := [(0, .ref (gx_ad x k)), (1, .int x1), (2, .int x2), (3, .int v8), (4, .int v9)]) [2, 3, 4, 1, 0] rfl ?_
          exact ih _ _ _ _ _ hf
      · rw [if_neg h3] at hf
        refine gr_iconst 0 X dX7_matching_45 (by decide) ?_
        refine gr_ior X dX7_matching_46 ?_
        obtain ⟨v10, ev10, hf⟩ := gz_lte hf
        refine gr_istore_n [(3, .int v10), (0, .ref (gx_ad x k)), (1, .int x1), (2, .int x2), (4, .int x4)] X dX7_matching_47 ev10 rfl (by decide) rfl ?_
        obtain ⟨v11, ev11, hf⟩ := gz_lte hf
        refine gr_iinc 1 [(4, .int v11), (3, .int v10), (0, .ref (gx_ad x k)), (1, .int x1), (2, .int x2)] X dX7_matching_48 4 rfl (by decide) ev11 (by decide) rfl ?_
        refine gr_goto 5 X dX7_matching_51 (by decide) ?_
        refine gr_sub (lv' := [(0, .ref (gx_ad x k)), (1, .int x1), (2, .int x2), (3, .int v10), (4, .int v11)]) [2, 3, 4, 1, 0] rfl ?_
        exact ih _ _ _ _ _ hf

def f7_matching (k : Nat) (a0 : Int32) (a1 : Int32) (M0 : gz_M) : Option (Int32 × gz_M) := f7_matching_5 k gz_FU a0 a1 0 0 M0
set_option maxRecDepth 100000 in
theorem c7_matching {pf : Nat → Bool} {l : Launch} {r : Int32} {M0 M' : gz_M} {k : Nat} {a0 : Int32} {a1 : Int32} (hk : gz_IsX7 pf k) (hf : f7_matching k a0 a1 M0 = some (r, M')) : gz_CI l gz_cfC yX7_matching cX7_matching 5 1 .int (fun ad => [.ref (ad k), .int a0, .int a1]) pf M0 r M' := by
  refine gz_ofI (by decide +kernel) (fun _ => Nat.le_of_ble_eq_true rfl) (fun x X hc hE => ?_)
  show gz_At x 0 [(0, .ref (gx_ad x k)), (1, .int a0), (2, .int a1)] [] M0
  unfold f7_matching at hf
  refine gr_iconst 0 X dX7_matching_0 (by decide) ?_
  refine gr_istore_n [(3, .int 0), (0, .ref (gx_ad x k)), (1, .int a0), (2, .int a1)] X dX7_matching_1 rfl rfl (by decide) rfl ?_
  refine gr_iconst 0 X dX7_matching_2 (by decide) ?_
  refine gr_istore [(4, .int 0), (3, .int 0), (0, .ref (gx_ad x k)), (1, .int a0), (2, .int a1)] X dX7_matching_3 rfl (by decide) rfl ?_
  refine gr_sub (lv' := [(0, .ref (gx_ad x k)), (1, .int a0), (2, .int a1), (3, .int 0), (4, .int 0)]) [2, 3, 4, 1, 0] rfl ?_
  exact b7_matching_5 X hc hE hk _ _ _ _ _ _ hf

def f7_matchingNothing_4 (k : Nat) : Nat → Int32 → Int32 → Int32 → gz_M → Option (Int32 × gz_M)
  | 0, _, _, _, _ => none
  | n + 1, x1, x2, x3, M0 => if (M0.1 k 0) ≤ x3 then (some (x2, M0)) else (gz_ck (gz_inb x3 8) <| if (M0.1 (k + 1) x3.toNatClampNeg) = x1 then (gz_ck (gz_inb x3 8) <| if (M0.1 (k + 6) x3.toNatClampNeg) = 0 then (gz_lt (x2 ||| 0) fun v6 => gz_lt (x3 + 1) fun v7 => f7_matchingNothing_4 k n x1 v6 v7 M0) else (gz_lt (x2 ||| (gz_shl 1 x3)) fun v8 => gz_lt (x3 + 1) fun v9 => f7_matchingNothing_4 k n x1 v8 v9 M0)) else (gz_lt (x2 ||| 0) fun v10 => gz_lt (x3 + 1) fun v11 => f7_matchingNothing_4 k n x1 v10 v11 M0))
theorem b7_matchingNothing_4 {x : gz_X} {pf : Nat → Bool} {l : Launch} {r : Int32} {M' : gz_M} (X : gz_Ok x cX7_matchingNothing RX7 4 1 gz_cfC pf l) (hc : gx_cells x ≤ (gx_R x).cells ∧ gx_slots x ≤ (gx_R x).slots) (hE : gz_EI x cX7_matchingNothing .int r M') {k : Nat} (hk : gz_IsX7 pf k) : ∀ (n : Nat) (x1 : Int32) (x2 : Int32) (x3 : Int32) (M0 : gz_M), f7_matchingNothing_4 k n x1 x2 x3 M0 = some (r, M') → gz_At x 4 [(0, .ref (gx_ad x k)), (1, .int x1), (2, .int x2), (3, .int x3)] [] M0 := by
  intro n
  induction n with
  | zero =>
    intro x1 x2 x3 M0  hf
    rw [f7_matchingNothing_4] at hf
    cases hf
  | succ n ih =>
    intro x1 x2 x3 M0  hf
    rw [f7_matchingNothing_4] at hf
    refine gr_iload_n X dX7_matchingNothing_4 3 rfl rfl ?_
    refine gr_aload_n X dX7_matchingNothing_5 0 rfl rfl ?_
    refine gf7_0 X (gk_X7o hk) wf_RX7_9 dX7_matchingNothing_6 ?_
    refine gr_icmp_ge 47 X dX7_matchingNothing_9 (by decide) (fun h1 => ?_) (fun h1 => ?_)
    · rw [if_pos h1] at hf
      refine gr_iload_n X dX7_matchingNothing_47 2 rfl rfl ?_
      exact gz_EIu hE hf rfl dX7_matchingNothing_48
    · rw [if_neg h1] at hf
      refine gr_iload_n X dX7_matchingNothing_12 2 rfl rfl ?_
      refine gr_aload_n X dX7_matchingNothing_13 0 rfl rfl ?_
      refine gf7_1 X (gk_X7o hk) wf_RX7_15 dX7_matchingNothing_14 ?_
      refine gr_iload_n X dX7_matchingNothing_17 3 rfl rfl ?_
      obtain ⟨h2, hf⟩ := gz_cke hf
      refine gr_iaload X (gk_X71 hk) (gz_inp h2) dX7_matchingNothing_18 ?_
      refine gr_iload_n X dX7_matchingNothing_19 1 rfl rfl ?_
      refine gr_icmp_ne 38 X dX7_matchingNothing_20 (by decide) (fun h3 => ?_) (fun h3 => ?_)
      · rw [if_pos h3] at hf
        refine gr_aload_n X dX7_matchingNothing_23 0 rfl rfl ?_
        refine gf7_6 X (gk_X7o hk) wf_RX7_31 dX7_matchingNothing_24 ?_
        refine gr_iload_n X dX7_matchingNothing_27 3 rfl rfl ?_
        obtain ⟨h4, hf⟩ := gz_cke hf
        refine gr_zaload X (gk_X76 hk) (gz_inp h4) dX7_matchingNothing_28 ?_
        refine gr_if_eq 38 X dX7_matchingNothing_29 (by decide) (fun h5 => ?_) (fun h5 => ?_)
        · rw [if_pos h5] at hf
          refine gr_iconst 0 X dX7_matchingNothing_38 (by decide) ?_
          refine gr_ior X dX7_matchingNothing_39 ?_
          obtain ⟨v6, ev6, hf⟩ := gz_lte hf
          refine gr_istore_n [(2, .int v6), (0, .ref (gx_ad x k)), (1, .int x1), (3, .int x3)] X dX7_matchingNothing_40 ev6 rfl (by decide) rfl ?_
          obtain ⟨v7, ev7, hf⟩ := gz_lte hf
          refine gr_iinc 1 [(3, .int v7), (2, .int v6), (0, .ref (gx_ad x k)), (1, .int x1)] X dX7_matchingNothing_41 3 rfl (by decide) ev7 (by decide) rfl ?_
          refine gr_goto 4 X dX7_matchingNothing_44 (by decide) ?_
          refine gr_sub (lv' := [(0, .ref (gx_ad x k)), (1, .int x1), (2, .int v6), (3, .int v7)]) [2, 3, 1, 0] rfl ?_
          exact ih _ _ _ _ hf
        · rw [if_neg h5] at hf
          refine gr_iconst 1 X dX7_matchingNothing_32 (by decide) ?_
          refine gr_iload_n X dX7_matchingNothing_33 3 rfl rfl ?_
          refine gr_ishl X dX7_matchingNothing_34 ?_
          refine gr_goto 39 X dX7_matchingNothing_35 (by decide) ?_
          refine gr_ior X dX7_matchingNothing_39 ?_
          obtain ⟨v8, ev8, hf⟩ := gz_lte hf
          refine gr_istore_n [(2, .int v8), (0, .ref (gx_ad x k)), (1, .int x1), (3, .int x3)] X dX7_matchingNothing_40 ev8 rfl (by decide) rfl ?_
          obtain ⟨v9, ev9, hf⟩ := gz_lte hf
          refine gr_iinc 1 [(3, .int v9), (2, .int v8), (0, .ref (gx_ad x k)), (1, .int x1)] X dX7_matchingNothing_41 3 rfl (by decide) ev9 (by decide) rfl ?_
          refine gr_goto 4 X dX7_matchingNothing_44 (by decide) ?_
          refine gr_sub (lv' := [(0, .ref (gx_ad x k)), (1, .int x1), (2, .int v8), (3, .int v9)]) [2, 3, 1, 0] rfl ?_
          exact ih _ _ _ _ hf
      · rw [if_neg h3] at hf
        refine gr_iconst 0 X dX7_matchingNothing_38 (by decide) ?_
        refine gr_ior X dX7_matchingNothing_39 ?_
        obtain ⟨v10, ev10, hf⟩ := gz_lte hf
        refine gr_istore_n [(2, .int v10), (0, .ref (gx_ad x k)), (1, .int x1), (3, .int x3)] X dX7_matchingNothing_40 ev10 rfl (by decide) rfl ?_
        obtain ⟨v11, ev11, hf⟩ := gz_lte hf
        refine gr_iinc 1 [(3, .int v11), (2, .int v10), (0, .ref (gx_ad x k)), (1, .int x1)] X dX7_matchingNothing_41 3 rfl (by decide) ev11 (by decide) rfl ?_
        refine gr_goto 4 X dX7_matchingNothing_44 (by decide) ?_
        refine gr_sub (lv' := [(0, .ref (gx_ad x k)), (1, .int x1), (2, .int v10), (3, .int v11)]) [2, 3, 1, 0] rfl ?_
        exact ih _ _ _ _ hf

def f7_matchingNothing (k : Nat) (a0 : Int32) (M0 : gz_M) : Option (Int32 × gz_M) := f7_matchingNothing_4 k gz_FU a0 0 0 M0
set_option maxRecDepth 100000 in
theorem c7_matchingNothing {pf : Nat → Bool} {l : Launch} {r : Int32} {M0 M' : gz_M} {k : Nat} {a0 : Int32} (hk : gz_IsX7 pf k) (hf : f7_matchingNothing k a0 M0 = some (r, M')) : gz_CI l gz_cfC yX7_matchingNothing cX7_matchingNothing 4 1 .int (fun ad => [.ref (ad k), .int a0]) pf M0 r M' := by
  refine gz_ofI (by decide +kernel) (fun _ => Nat.le_of_ble_eq_true rfl) (fun x X hc hE => ?_)
  show gz_At x 0 [(0, .ref (gx_ad x k)), (1, .int a0)] [] M0
  unfold f7_matchingNothing at hf
  refine gr_iconst 0 X dX7_matchingNothing_0 (by decide) ?_
  refine gr_istore_n [(2, .int 0), (0, .ref (gx_ad x k)), (1, .int a0)] X dX7_matchingNothing_1 rfl rfl (by decide) rfl ?_
  refine gr_iconst 0 X dX7_matchingNothing_2 (by decide) ?_
  refine gr_istore_n [(3, .int 0), (2, .int 0), (0, .ref (gx_ad x k)), (1, .int a0)] X dX7_matchingNothing_3 rfl rfl (by decide) rfl ?_
  refine gr_sub (lv' := [(0, .ref (gx_ad x k)), (1, .int a0), (2, .int 0), (3, .int 0)]) [2, 3, 1, 0] rfl ?_
  exact b7_matchingNothing_4 X hc hE hk _ _ _ _ _ hf

def f7_lettersOfAll_4 (k : Nat) : Nat → Int32 → Int32 → gz_M → Option (Int32 × gz_M)
  | 0, _, _, _ => none
  | n + 1, x1, x2, M0 => if (M0.1 k 0) ≤ x2 then (some (x1, M0)) else (gz_ck (gz_inb x2 8) <| gz_lt (x1 + (M0.1 (k + 2) x2.toNatClampNeg)) fun v3 => gz_lt (x2 + 1) fun v4 => f7_lettersOfAll_4 k n v3 v4 M0)
theorem b7_lettersOfAll_4 {x : gz_X} {pf : Nat → Bool} {l : Launch} {r : Int32} {M' : gz_M} (X : gz_Ok x cX7_lettersOfAll RX7 3 1 gz_cfC pf l) (hc : gx_cells x ≤ (gx_R x).cells ∧ gx_slots x ≤ (gx_R x).slots) (hE : gz_EI x cX7_lettersOfAll .int r M') {k : Nat} (hk : gz_IsX7 pf k) : ∀ (n : Nat) (x1 : Int32) (x2 : Int32) (M0 : gz_M), f7_lettersOfAll_4 k n x1 x2 M0 = some (r, M') → gz_At x 4 [(0, .ref (gx_ad x k)), (1, .int x1), (2, .int x2)] [] M0 := by
  intro n
  induction n with
  | zero =>
    intro x1 x2 M0  hf
    rw [f7_lettersOfAll_4] at hf
    cases hf
  | succ n ih =>
    intro x1 x2 M0  hf
    rw [f7_lettersOfAll_4] at hf
    refine gr_iload_n X dX7_lettersOfAll_4 2 rfl rfl ?_
    refine gr_aload_n X dX7_lettersOfAll_5 0 rfl rfl ?_
    refine gf7_0 X (gk_X7o hk) wf_RX7_9 dX7_lettersOfAll_6 ?_
    refine gr_icmp_ge 27 X dX7_lettersOfAll_9 (by decide) (fun h1 => ?_) (fun h1 => ?_)
    · rw [if_pos h1] at hf
      refine gr_iload_n X dX7_lettersOfAll_27 1 rfl rfl ?_
      exact gz_EIu hE hf rfl dX7_lettersOfAll_28
    · rw [if_neg h1] at hf
      refine gr_iload_n X dX7_lettersOfAll_12 1 rfl rfl ?_
      refine gr_aload_n X dX7_lettersOfAll_13 0 rfl rfl ?_
      refine gf7_2 X (gk_X7o hk) wf_RX7_19 dX7_lettersOfAll_14 ?_
      refine gr_iload_n X dX7_lettersOfAll_17 2 rfl rfl ?_
      obtain ⟨h2, hf⟩ := gz_cke hf
      refine gr_iaload X (gk_X72 hk) (gz_inp h2) dX7_lettersOfAll_18 ?_
      refine gr_iadd X dX7_lettersOfAll_19 ?_
      obtain ⟨v3, ev3, hf⟩ := gz_lte hf
      refine gr_istore_n [(1, .int v3), (0, .ref (gx_ad x k)), (2, .int x2)] X dX7_lettersOfAll_20 ev3 rfl (by decide) rfl ?_
      obtain ⟨v4, ev4, hf⟩ := gz_lte hf
      refine gr_iinc 1 [(2, .int v4), (1, .int v3), (0, .ref (gx_ad x k))] X dX7_lettersOfAll_21 2 rfl (by decide) ev4 (by decide) rfl ?_
      refine gr_goto 4 X dX7_lettersOfAll_24 (by decide) ?_
      refine gr_sub (lv' := [(0, .ref (gx_ad x k)), (1, .int v3), (2, .int v4)]) [2, 1, 0] rfl ?_
      exact ih _ _ _ hf

def f7_lettersOfAll (k : Nat) (M0 : gz_M) : Option (Int32 × gz_M) := f7_lettersOfAll_4 k gz_FU 0 0 M0
set_option maxRecDepth 100000 in
theorem c7_lettersOfAll {pf : Nat → Bool} {l : Launch} {r : Int32} {M0 M' : gz_M} {k : Nat} (hk : gz_IsX7 pf k) (hf : f7_lettersOfAll k M0 = some (r, M')) : gz_CI l gz_cfC yX7_lettersOfAll cX7_lettersOfAll 3 1 .int (fun ad => [.ref (ad k)]) pf M0 r M' := by
  refine gz_ofI (by decide +kernel) (fun _ => Nat.le_of_ble_eq_true rfl) (fun x X hc hE => ?_)
  show gz_At x 0 [(0, .ref (gx_ad x k))] [] M0
  unfold f7_lettersOfAll at hf
  refine gr_iconst 0 X dX7_lettersOfAll_0 (by decide) ?_
  refine gr_istore_n [(1, .int 0), (0, .ref (gx_ad x k))] X dX7_lettersOfAll_1 rfl rfl (by decide) rfl ?_
  refine gr_iconst 0 X dX7_lettersOfAll_2 (by decide) ?_
  refine gr_istore_n [(2, .int 0), (1, .int 0), (0, .ref (gx_ad x k))] X dX7_lettersOfAll_3 rfl rfl (by decide) rfl ?_
  refine gr_sub (lv' := [(0, .ref (gx_ad x k)), (1, .int 0), (2, .int 0)]) [2, 1, 0] rfl ?_
  exact b7_lettersOfAll_4 X hc hE hk _ _ _ _ hf

def f7_modesWithRules_4 (k : Nat) : Nat → Int32 → Int32 → gz_M → Option (Int32 × gz_M)
  | 0, _, _, _ => none
  | n + 1, x1, x2, M0 => if (M0.1 k 0) ≤ x2 then (some (x1, M0)) else (gz_ck (gz_inb x2 8) <| gz_lt (x1 ||| (gz_shl 1 (M0.1 (k + 1) x2.toNatClampNeg))) fun v3 => gz_lt (x2 + 1) fun v4 => f7_modesWithRules_4 k n v3 v4 M0)
theorem b7_modesWithRules_4 {x : gz_X} {pf : Nat → Bool} {l : Launch} {r : Int32} {M' : gz_M} (X : gz_Ok x cX7_modesWithRules RX7 3 1 gz_cfC pf l) (hc : gx_cells x ≤ (gx_R x).cells ∧ gx_slots x ≤ (gx_R x).slots) (hE : gz_EI x cX7_modesWithRules .int r M') {k : Nat} (hk : gz_IsX7 pf k) : ∀ (n : Nat) (x1 : Int32) (x2 : Int32) (M0 : gz_M), f7_modesWithRules_4 k n x1 x2 M0 = some (r, M') → gz_At x 4 [(0, .ref (gx_ad x k)), (1, .int x1), (2, .int x2)] [] M0 := by
  intro n
  induction n with
  | zero =>
    intro x1 x2 M0  hf
    rw [f7_modesWithRules_4] at hf
    cases hf
  | succ n ih =>
    intro x1 x2 M0  hf
    rw [f7_modesWithRules_4] at hf
    refine gr_iload_n X dX7_modesWithRules_4 2 rfl rfl ?_
    refine gr_aload_n X dX7_modesWithRules_5 0 rfl rfl ?_
    refine gf7_0 X (gk_X7o hk) wf_RX7_9 dX7_modesWithRules_6 ?_
    refine gr_icmp_ge 29 X dX7_modesWithRules_9 (by decide) (fun h1 => ?_) (fun h1 => ?_)
    · rw [if_pos h1] at hf
      refine gr_iload_n X dX7_modesWithRules_29 1 rfl rfl ?_
      exact gz_EIu hE hf rfl dX7_modesWithRules_30
    · rw [if_neg h1] at hf
      refine gr_iload_n X dX7_modesWithRules_12 1 rfl rfl ?_
      refine gr_iconst 1 X dX7_modesWithRules_13 (by decide) ?_
      refine gr_aload_n X dX7_modesWithRules_14 0 rfl rfl ?_
      refine gf7_1 X (gk_X7o hk) wf_RX7_15 dX7_modesWithRules_15 ?_
      refine gr_iload_n X dX7_modesWithRules_18 2 rfl rfl ?_
      obtain ⟨h2, hf⟩ := gz_cke hf
      refine gr_iaload X (gk_X71 hk) (gz_inp h2) dX7_modesWithRules_19 ?_
      refine gr_ishl X dX7_modesWithRules_20 ?_
      refine gr_ior X dX7_modesWithRules_21 ?_
      obtain ⟨v3, ev3, hf⟩ := gz_lte hf
      refine gr_istore_n [(1, .int v3), (0, .ref (gx_ad x k)), (2, .int x2)] X dX7_modesWithRules_22 ev3 rfl (by decide) rfl ?_
      obtain ⟨v4, ev4, hf⟩ := gz_lte hf
      refine gr_iinc 1 [(2, .int v4), (1, .int v3), (0, .ref (gx_ad x k))] X dX7_modesWithRules_23 2 rfl (by decide) ev4 (by decide) rfl ?_
      refine gr_goto 4 X dX7_modesWithRules_26 (by decide) ?_
      refine gr_sub (lv' := [(0, .ref (gx_ad x k)), (1, .int v3), (2, .int v4)]) [2, 1, 0] rfl ?_
      exact ih _ _ _ hf

def f7_modesWithRules (k : Nat) (M0 : gz_M) : Option (Int32 × gz_M) := f7_modesWithRules_4 k gz_FU 0 0 M0
set_option maxRecDepth 100000 in
theorem c7_modesWithRules {pf : Nat → Bool} {l : Launch} {r : Int32} {M0 M' : gz_M} {k : Nat} (hk : gz_IsX7 pf k) (hf : f7_modesWithRules k M0 = some (r, M')) : gz_CI l gz_cfC yX7_modesWithRules cX7_modesWithRules 3 1 .int (fun ad => [.ref (ad k)]) pf M0 r M' := by
  refine gz_ofI (by decide +kernel) (fun _ => Nat.le_of_ble_eq_true rfl) (fun x X hc hE => ?_)
  show gz_At x 0 [(0, .ref (gx_ad x k))] [] M0
  unfold f7_modesWithRules at hf
  refine gr_iconst 0 X dX7_modesWithRules_0 (by decide) ?_
  refine gr_istore_n [(1, .int 0), (0, .ref (gx_ad x k))] X dX7_modesWithRules_1 rfl rfl (by decide) rfl ?_
  refine gr_iconst 0 X dX7_modesWithRules_2 (by decide) ?_
  refine gr_istore_n [(2, .int 0), (1, .int 0), (0, .ref (gx_ad x k))] X dX7_modesWithRules_3 rfl rfl (by decide) rfl ?_
  refine gr_sub (lv' := [(0, .ref (gx_ad x k)), (1, .int 0), (2, .int 0)]) [2, 1, 0] rfl ?_
  exact b7_modesWithRules_4 X hc hE hk _ _ _ _ hf

def f0_copy (k : Nat) (k0 : Nat) (M0 : gz_M) : Option (gz_M) := gz_lt (gz_cp M0 (k0 + 1) (k + 1) 0 0 80) fun M1 => gz_lt (gz_w M1 k 1 (M1.1 k0 1)) fun M2 => gz_bd (f5_copy (k + 2) (k0 + 2) M2) fun M3 => some M3
set_option maxRecDepth 100000 in
theorem c0_copy {pf : Nat → Bool} {l : Launch} {M0 M' : gz_M} {k : Nat} {k0 : Nat} (hk : gz_IsX0 pf k) (hk0 : gz_IsX0 pf k0) (hf : f0_copy k k0 M0 = some M') : gz_CV l gz_cfC yX0_copy cX0_copy 2 2 (fun ad => [.ref (ad k), .ref (ad k0)]) pf M0 M' := by
  refine gz_ofV (by decide +kernel) (fun _ => Nat.le_of_ble_eq_true rfl) (fun x X hc hE => ?_)
  show gz_At x 0 [(0, .ref (gx_ad x k)), (1, .ref (gx_ad x k0))] [] M0
  unfold f0_copy at hf
  refine gr_aload_n X dX0_copy_0 1 rfl rfl ?_
  refine gf0_0 X (gk_X0o hk0) wf_RX0_9 dX0_copy_1 ?_
  refine gr_iconst 0 X dX0_copy_4 (by decide) ?_
  refine gr_aload_n X dX0_copy_5 0 rfl rfl ?_
  refine gf0_0 X (gk_X0o hk) wf_RX0_9 dX0_copy_6 ?_
  refine gr_iconst 0 X dX0_copy_9 (by decide) ?_
  refine gr_bipush 80 X dX0_copy_10 (by decide) ?_
  obtain ⟨M1, eM1, hf⟩ := gz_lte hf
  refine gr_acopy X (by decide) (gk_X01 hk0) (gk_X01 hk) wl_RX0_26 (sp := 0) (dp := 0) (n := 80) rfl rfl rfl (by decide) (by decide) (by decide) (by decide) (by decide) (Nat.le_of_ble_eq_true rfl) eM1 dX0_copy_12 ?_
  refine gr_aload_n X dX0_copy_15 0 rfl rfl ?_
  refine gr_aload_n X dX0_copy_16 1 rfl rfl ?_
  refine gf0_1 X (gk_X0o hk0) wf_RX0_15 dX0_copy_17 ?_
  obtain ⟨M2, eM2, hf⟩ := gz_lte hf
  refine gp0_1 X (gk_X0o hk) wf_RX0_15 eM2 dX0_copy_20 ?_
  refine gr_aload_n X dX0_copy_23 0 rfl rfl ?_
  refine gf0_2 X (gk_X0o hk) wf_RX0_22 dX0_copy_24 ?_
  refine gr_aload_n X dX0_copy_27 1 rfl rfl ?_
  refine gf0_2 X (gk_X0o hk0) wf_RX0_22 dX0_copy_28 ?_
  obtain ⟨M3, q4, hf⟩ := gz_bde hf
  refine gr_callV (asF := fun ad => [.ref (ad (k + 2)), .ref (ad (k0 + 2))]) [.ref (gx_ad x (k0 + 2))] X (c5_copy (gi_X0line hk) (gi_X0line hk0) q4) rfl wm_RX0_32 rfl (X.kd (gk_X5o (gi_X0line hk))).1 ((X.kd (gk_X5o (gi_X0line hk))).2 _ _ _ _) rfl (by decide) (by decide) rfl (Nat.le_of_ble_eq_true rfl) hc dX0_copy_31 ?_
  exact gz_EVu hE hf dX0_copy_34

def f0_takeRules (k : Nat) (M0 : gz_M) : Option (gz_M) := gz_lt (gz_cp M0 2 (k + 1) 0 0 80) fun M1 => gz_lt (gz_w M1 k 1 (M1.1 1 1)) fun M2 => some M2
set_option maxRecDepth 100000 in
theorem c0_takeRules {pf : Nat → Bool} {l : Launch} {M0 M' : gz_M} {k : Nat} (hk : gz_IsX0 pf k) (hf : f0_takeRules k M0 = some M') : gz_CV l gz_cfC yX0_takeRules cX0_takeRules 2 1 (fun ad => [.ref (ad k), .ref (ad 1)]) pf M0 M' := by
  refine gz_ofV (by decide +kernel) (fun _ => Nat.le_of_ble_eq_true rfl) (fun x X hc hE => ?_)
  show gz_At x 0 [(0, .ref (gx_ad x k)), (1, .ref (gx_ad x 1))] [] M0
  unfold f0_takeRules at hf
  refine gr_aload_n X dX0_takeRules_0 1 rfl rfl ?_
  refine gf10_0 X wf_RX0_36 dX0_takeRules_1 ?_
  refine gr_iconst 0 X dX0_takeRules_4 (by decide) ?_
  refine gr_aload_n X dX0_takeRules_5 0 rfl rfl ?_
  refine gf0_0 X (gk_X0o hk) wf_RX0_9 dX0_takeRules_6 ?_
  refine gr_iconst 0 X dX0_takeRules_9 (by decide) ?_
  refine gr_bipush 80 X dX0_takeRules_10 (by decide) ?_
  obtain ⟨M1, eM1, hf⟩ := gz_lte hf
  refine gr_acopy X (by decide) gk_C2 (gk_X01 hk) wl_RX0_26 (sp := 0) (dp := 0) (n := 80) rfl rfl rfl (by decide) (by decide) (by decide) (by decide) (by decide) (Nat.le_of_ble_eq_true rfl) eM1 dX0_takeRules_12 ?_
  refine gr_aload_n X dX0_takeRules_15 0 rfl rfl ?_
  refine gr_aload_n X dX0_takeRules_16 1 rfl rfl ?_
  refine gf10_1 X wf_RX0_41 dX0_takeRules_17 ?_
  obtain ⟨M2, eM2, hf⟩ := gz_lte hf
  refine gp0_1 X (gk_X0o hk) wf_RX0_15 eM2 dX0_takeRules_20 ?_
  exact gz_EVu hE hf dX0_takeRules_23
end
section
theorem wf_RX2_93 : gz_FL RX2 93 RX7 "total" "I" := Or.inr ⟨"LongestTokens", gz_inN 216 (by decide +kernel) rfl⟩
theorem wf_RX2_96 : gz_FL RX2 96 RX7 "digit" "[I" := Or.inr ⟨"LongestTokens", gz_inN 230 (by decide +kernel) rfl⟩
theorem wf_RX2_99 : gz_FL RX2 99 RX7 "act" "[I" := Or.inr ⟨"LongestTokens", gz_inN 226 (by decide +kernel) rfl⟩
theorem wf_RX2_43 : gz_FL RX2 43 RX2 "depthNow" "I" := Or.inl (gz_in 302 (by decide +kernel) rfl)
theorem wf_RX2_46 : gz_FL RX2 46 RX2 "pileNow" "I" := Or.inl (gz_in 303 (by decide +kernel) rfl)
theorem wl_RX2_102 : Cond.methodLink RX2 102 Lib.Math.min.name ∈ gz_TB := gz_in 673 (by decide +kernel) rfl
theorem wf_RX2_15 : gz_FL RX2 15 RX2 "most" "I" := Or.inl (gz_in 279 (by decide +kernel) rfl)
theorem wl_RX2_107 : Cond.methodLink RX2 107 Lib.Math.max.name ∈ gz_TB := gz_in 676 (by decide +kernel) rfl
theorem wf_RX2_49 : gz_FL RX2 49 RX2 "foundRule" "I" := Or.inl (gz_in 304 (by decide +kernel) rfl)
theorem wf_RX2_52 : gz_FL RX2 52 RX2 "foundBehind" "I" := Or.inl (gz_in 306 (by decide +kernel) rfl)
theorem wf_RX2_55 : gz_FL RX2 55 RX2 "foundReadTo" "I" := Or.inl (gz_in 308 (by decide +kernel) rfl)
theorem wf_RX2_58 : gz_FL RX2 58 RX2 "foundDead" "I" := Or.inl (gz_in 309 (by decide +kernel) rfl)
theorem wm_RX2_74 : gz_WV RX2 74 RX7 yX7_atFirst cX7_atFirst 2 1 (some (.int)) := ⟨Or.inl (gz_in 648 (by decide +kernel) rfl), wc_yX7_atFirst⟩
theorem wf_RX2_61 : gz_FL RX2 61 RX5 "length" "I" := Or.inr ⟨"LongestTokens", gz_inN 185 (by decide +kernel) rfl⟩
theorem wm_RX2_80 : gz_WV RX2 80 RX5 yX5_get cX5_get 2 1 (some (.int)) := ⟨Or.inl (gz_in 653 (by decide +kernel) rfl), wc_yX5_get⟩
theorem wm_RX2_83 : gz_WV RX2 83 RX7 yX7_takersOf cX7_takersOf 3 2 (some (.int)) := ⟨Or.inl (gz_in 657 (by decide +kernel) rfl), wc_yX7_takersOf⟩
theorem wc_yX7_winner : Cond.instanceMethod yX7_winner ∈ gz_TB ∧ Cond.selects RX7 yX7_winner yX7_winner ∈ gz_TB ∧ Cond.initialized yX7_winner.cls ∈ gz_TB ∧ Cond.code yX7_winner cX7_winner 4 (some (.int)) ∈ gz_TB ∧ (yX7_winner.cls ≠ "java/lang/invoke/MethodHandle" ∧ yX7_winner.cls ≠ "java/lang/invoke/VarHandle" ∧ (parseMethodDescriptor yX7_winner.desc).map (fun d => d.parameters.length) = some 2) := ⟨gz_in 662 (by decide +kernel) rfl, gz_in 663 (by decide +kernel) rfl, gz_in 91 (by decide +kernel) rfl, gz_in 664 (by decide +kernel) rfl, by decide +kernel⟩
theorem wm_RX2_87 : gz_WV RX2 87 RX7 yX7_winner cX7_winner 4 2 (some (.int)) := ⟨Or.inl (gz_in 661 (by decide +kernel) rfl), wc_yX7_winner⟩
theorem wm_RX2_90 : gz_WV RX2 90 RX7 yX7_after cX7_after 5 2 (some (.int)) := ⟨Or.inl (gz_in 665 (by decide +kernel) rfl), wc_yX7_after⟩
theorem wf_RX2_9 : gz_FL RX2 9 RX2 "size" "I" := Or.inl (gz_in 276 (by decide +kernel) rfl)
theorem wc_yX2_readFrom : Cond.instanceMethod yX2_readFrom ∈ gz_TB ∧ Cond.selects RX2 yX2_readFrom yX2_readFrom ∈ gz_TB ∧ Cond.initialized yX2_readFrom.cls ∈ gz_TB ∧ Cond.code yX2_readFrom cX2_readFrom 9 none ∈ gz_TB ∧ (yX2_readFrom.cls ≠ "java/lang/invoke/MethodHandle" ∧ yX2_readFrom.cls ≠ "java/lang/invoke/VarHandle" ∧ (parseMethodDescriptor yX2_readFrom.desc).map (fun d => d.parameters.length) = some 4) := ⟨gz_in 645 (by decide +kernel) rfl, gz_in 646 (by decide +kernel) rfl, gz_in 92 (by decide +kernel) rfl, gz_in 647 (by decide +kernel) rfl, by decide +kernel⟩
theorem wm_RX2_66 : gz_WV RX2 66 RX2 yX2_readFrom cX2_readFrom 9 4 none := ⟨Or.inl (gz_in 644 (by decide +kernel) rfl), wc_yX2_readFrom⟩
theorem wf_RX2_22 : gz_FL RX2 22 RX2 "first" "[I" := Or.inl (gz_in 284 (by decide +kernel) rfl)
theorem wf_RX2_18 : gz_FL RX2 18 RX2 "rule" "[I" := Or.inl (gz_in 281 (by decide +kernel) rfl)
theorem wf_RX2_25 : gz_FL RX2 25 RX2 "behind" "[I" := Or.inl (gz_in 287 (by decide +kernel) rfl)
theorem wf_RX2_28 : gz_FL RX2 28 RX2 "readTo" "[I" := Or.inl (gz_in 290 (by decide +kernel) rfl)
theorem wf_RX2_31 : gz_FL RX2 31 RX2 "dead" "[I" := Or.inl (gz_in 293 (by decide +kernel) rfl)
theorem wf_RX2_34 : gz_FL RX2 34 RX2 "mode" "[I" := Or.inl (gz_in 295 (by decide +kernel) rfl)
theorem wc_yX2_doAct : Cond.instanceMethod yX2_doAct ∈ gz_TB ∧ Cond.selects RX2 yX2_doAct yX2_doAct ∈ gz_TB ∧ Cond.initialized yX2_doAct.cls ∈ gz_TB ∧ Cond.code yX2_doAct cX2_doAct 4 none ∈ gz_TB ∧ (yX2_doAct.cls ≠ "java/lang/invoke/MethodHandle" ∧ yX2_doAct.cls ≠ "java/lang/invoke/VarHandle" ∧ (parseMethodDescriptor yX2_doAct.desc).map (fun d => d.parameters.length) = some 2) := ⟨gz_in 671 (by decide +kernel) rfl, gz_in 17 (by decide +kernel) rfl, gz_in 92 (by decide +kernel) rfl, gz_in 672 (by decide +kernel) rfl, by decide +kernel⟩
theorem wm_RX2_70 : gz_WV RX2 70 RX2 yX2_doAct cX2_doAct 4 2 none := ⟨Or.inl (gz_in 669 (by decide +kernel) rfl), wc_yX2_doAct⟩
theorem wf_RX2_37 : gz_FL RX2 37 RX2 "depth" "[I" := Or.inl (gz_in 298 (by decide +kernel) rfl)
theorem wf_RX2_40 : gz_FL RX2 40 RX2 "pile" "[I" := Or.inl (gz_in 300 (by decide +kernel) rfl)
theorem wc_yX2_reach : Cond.instanceMethod yX2_reach ∈ gz_TB ∧ Cond.selects RX2 yX2_reach yX2_reach ∈ gz_TB ∧ Cond.initialized yX2_reach.cls ∈ gz_TB ∧ Cond.code yX2_reach cX2_reach 2 (some (.int)) ∈ gz_TB ∧ (yX2_reach.cls ≠ "java/lang/invoke/MethodHandle" ∧ yX2_reach.cls ≠ "java/lang/invoke/VarHandle" ∧ (parseMethodDescriptor yX2_reach.desc).map (fun d => d.parameters.length) = some 1) := ⟨gz_in 938 (by decide +kernel) rfl, gz_in 939 (by decide +kernel) rfl, gz_in 92 (by decide +kernel) rfl, gz_in 940 (by decide +kernel) rfl, by decide +kernel⟩
theorem wm_RX2_110 : gz_WV RX2 110 RX2 yX2_reach cX2_reach 2 1 (some (.int)) := ⟨Or.inl (gz_in 937 (by decide +kernel) rfl), wc_yX2_reach⟩
theorem wf_RX6_19 : gz_FL RX6 19 RX6 "sizes" "[I" := Or.inl (gz_in 354 (by decide +kernel) rfl)
theorem wm_RX6_93 : gz_WS RX6 93 yJ7_fill_53178 cJ7_fill_53178 4 2 none := ⟨Or.inl (gz_in 774 (by decide +kernel) rfl), wc_yJ7_fill_53178⟩
theorem wf_RX6_23 : gz_FL RX6 23 RX6 "total" "I" := Or.inl (gz_in 355 (by decide +kernel) rfl)
theorem wf_RX6_27 : gz_FL RX6 27 RX6 "signsRead" "I" := Or.inl (gz_in 357 (by decide +kernel) rfl)
theorem wf_RX6_11 : gz_FL RX6 11 RX6 "keys" "[[I" := Or.inl (gz_in 352 (by decide +kernel) rfl)
theorem wc_yX6_indexOf : Cond.instanceMethod yX6_indexOf ∈ gz_TB ∧ Cond.selects RX6 yX6_indexOf yX6_indexOf ∈ gz_TB ∧ Cond.initialized yX6_indexOf.cls ∈ gz_TB ∧ Cond.code yX6_indexOf cX6_indexOf 4 (some (.int)) ∈ gz_TB ∧ (yX6_indexOf.cls ≠ "java/lang/invoke/MethodHandle" ∧ yX6_indexOf.cls ≠ "java/lang/invoke/VarHandle" ∧ (parseMethodDescriptor yX6_indexOf.desc).map (fun d => d.parameters.length) = some 2) := ⟨gz_in 788 (by decide +kernel) rfl, gz_in 21 (by decide +kernel) rfl, gz_in 93 (by decide +kernel) rfl, gz_in 789 (by decide +kernel) rfl, by decide +kernel⟩
theorem wm_RX6_85 : gz_WV RX6 85 RX6 yX6_indexOf cX6_indexOf 4 2 (some (.int)) := ⟨Or.inl (gz_in 786 (by decide +kernel) rfl), wc_yX6_indexOf⟩
theorem wf_RX6_16 : gz_FL RX6 16 RX6 "times" "[[I" := Or.inl (gz_in 353 (by decide +kernel) rfl)
theorem wc_yX6_clear : Cond.instanceMethod yX6_clear ∈ gz_TB ∧ Cond.selects RX6 yX6_clear yX6_clear ∈ gz_TB ∧ Cond.initialized yX6_clear.cls ∈ gz_TB ∧ Cond.code yX6_clear cX6_clear 1 none ∈ gz_TB ∧ (yX6_clear.cls ≠ "java/lang/invoke/MethodHandle" ∧ yX6_clear.cls ≠ "java/lang/invoke/VarHandle" ∧ (parseMethodDescriptor yX6_clear.desc).map (fun d => d.parameters.length) = some 0) := ⟨gz_in 772 (by decide +kernel) rfl, gz_in 19 (by decide +kernel) rfl, gz_in 93 (by decide +kernel) rfl, gz_in 773 (by decide +kernel) rfl, by decide +kernel⟩
theorem wm_RX6_30 : gz_WV RX6 30 RX6 yX6_clear cX6_clear 1 0 none := ⟨Or.inl (gz_in 770 (by decide +kernel) rfl), wc_yX6_clear⟩
theorem wf_RX6_33 : gz_FL RX6 33 RX2 "size" "I" := Or.inr ⟨"LongestTokens", gz_inN 277 (by decide +kernel) rfl⟩
theorem wf_RX6_38 : gz_FL RX6 38 RX2 "mode" "[I" := Or.inr ⟨"LongestTokens", gz_inN 296 (by decide +kernel) rfl⟩
theorem wm_RX6_41 : gz_WV RX6 41 RX7 yX7_atFirst cX7_atFirst 2 1 (some (.int)) := ⟨Or.inl (gz_in 779 (by decide +kernel) rfl), wc_yX7_atFirst⟩
theorem wf_RX6_47 : gz_FL RX6 47 RX2 "first" "[I" := Or.inr ⟨"LongestTokens", gz_inN 285 (by decide +kernel) rfl⟩
theorem wf_RX6_50 : gz_FL RX6 50 RX2 "readTo" "[I" := Or.inr ⟨"LongestTokens", gz_inN 291 (by decide +kernel) rfl⟩
theorem wm_RX6_53 : gz_WV RX6 53 RX5 yX5_get cX5_get 2 1 (some (.int)) := ⟨Or.inl (gz_in 780 (by decide +kernel) rfl), wc_yX5_get⟩
theorem wm_RX6_58 : gz_WV RX6 58 RX7 yX7_takersOf cX7_takersOf 3 2 (some (.int)) := ⟨Or.inl (gz_in 781 (by decide +kernel) rfl), wc_yX7_takersOf⟩
theorem wm_RX6_62 : gz_WV RX6 62 RX7 yX7_after cX7_after 5 2 (some (.int)) := ⟨Or.inl (gz_in 782 (by decide +kernel) rfl), wc_yX7_after⟩
theorem wc_yX6_keyOf : Cond.static yX6_keyOf ∈ gz_TB ∧ Cond.initialized yX6_keyOf.cls ∈ gz_TB ∧ Cond.code yX6_keyOf cX6_keyOf 2 (some (.int)) ∈ gz_TB ∧ (yX6_keyOf.cls ≠ "java/lang/invoke/MethodHandle" ∧ yX6_keyOf.cls ≠ "java/lang/invoke/VarHandle" ∧ (parseMethodDescriptor yX6_keyOf.desc).map (fun d => d.parameters.length) = some 2) := ⟨gz_in 784 (by decide +kernel) rfl, gz_in 93 (by decide +kernel) rfl, gz_in 785 (by decide +kernel) rfl, by decide +kernel⟩
theorem wm_RX6_65 : gz_WS RX6 65 yX6_keyOf cX6_keyOf 2 2 (some (.int)) := ⟨Or.inl (gz_in 783 (by decide +kernel) rfl), wc_yX6_keyOf⟩
theorem wc_yX6_comeTo : Cond.instanceMethod yX6_comeTo ∈ gz_TB ∧ Cond.selects RX6 yX6_comeTo yX6_comeTo ∈ gz_TB ∧ Cond.initialized yX6_comeTo.cls ∈ gz_TB ∧ Cond.code yX6_comeTo cX6_comeTo 4 none ∈ gz_TB ∧ (yX6_comeTo.cls ≠ "java/lang/invoke/MethodHandle" ∧ yX6_comeTo.cls ≠ "java/lang/invoke/VarHandle" ∧ (parseMethodDescriptor yX6_comeTo.desc).map (fun d => d.parameters.length) = some 2) := ⟨gz_in 792 (by decide +kernel) rfl, gz_in 22 (by decide +kernel) rfl, gz_in 93 (by decide +kernel) rfl, gz_in 793 (by decide +kernel) rfl, by decide +kernel⟩
theorem wm_RX6_68 : gz_WV RX6 68 RX6 yX6_comeTo cX6_comeTo 4 2 none := ⟨Or.inl (gz_in 790 (by decide +kernel) rfl), wc_yX6_comeTo⟩
theorem wf_RX6_82 : gz_FL RX6 82 RX5 "length" "I" := Or.inr ⟨"LongestTokens", gz_inN 186 (by decide +kernel) rfl⟩
theorem wf_RX6_72 : gz_FL RX6 72 RX2 "rule" "[I" := Or.inr ⟨"LongestTokens", gz_inN 282 (by decide +kernel) rfl⟩
theorem wf_RX6_75 : gz_FL RX6 75 RX2 "behind" "[I" := Or.inr ⟨"LongestTokens", gz_inN 288 (by decide +kernel) rfl⟩
theorem wc_yX6_readOn : Cond.instanceMethod yX6_readOn ∈ gz_TB ∧ Cond.selects RX6 yX6_readOn yX6_readOn ∈ gz_TB ∧ Cond.initialized yX6_readOn.cls ∈ gz_TB ∧ Cond.code yX6_readOn cX6_readOn 11 none ∈ gz_TB ∧ (yX6_readOn.cls ≠ "java/lang/invoke/MethodHandle" ∧ yX6_readOn.cls ≠ "java/lang/invoke/VarHandle" ∧ (parseMethodDescriptor yX6_readOn.desc).map (fun d => d.parameters.length) = some 5) := ⟨gz_in 777 (by decide +kernel) rfl, gz_in 20 (by decide +kernel) rfl, gz_in 93 (by decide +kernel) rfl, gz_in 778 (by decide +kernel) rfl, by decide +kernel⟩
theorem wm_RX6_78 : gz_WV RX6 78 RX6 yX6_readOn cX6_readOn 11 5 none := ⟨Or.inl (gz_in 775 (by decide +kernel) rfl), wc_yX6_readOn⟩
theorem wl_RX6_88 : Cond.methodLink RX6 88 Lib.Math.max.name ∈ gz_TB := gz_in 810 (by decide +kernel) rfl
theorem wm_RX8_45 : gz_WV RX8 45 RX7 yX7_takersOf cX7_takersOf 3 2 (some (.int)) := ⟨Or.inl (gz_in 876 (by decide +kernel) rfl), wc_yX7_takersOf⟩
theorem wf_RX8_15 : gz_FL RX8 15 RX8 "cameBy" "[I" := Or.inl (gz_in 378 (by decide +kernel) rfl)
theorem wf_RX8_21 : gz_FL RX8 21 RX8 "size" "I" := Or.inl (gz_in 381 (by decide +kernel) rfl)
theorem wf_RX8_9 : gz_FL RX8 9 RX8 "queue" "[I" := Or.inl (gz_in 376 (by decide +kernel) rfl)
theorem wm_RX8_25 : gz_WS RX8 25 yJ7_fill_53178 cJ7_fill_53178 4 2 none := ⟨Or.inl (gz_in 870 (by decide +kernel) rfl), wc_yJ7_fill_53178⟩
theorem wm_RX8_31 : gz_WV RX8 31 RX7 yX7_atFirst cX7_atFirst 2 1 (some (.int)) := ⟨Or.inl (gz_in 871 (by decide +kernel) rfl), wc_yX7_atFirst⟩
theorem wc_yX8_spread : Cond.instanceMethod yX8_spread ∈ gz_TB ∧ Cond.selects RX8 yX8_spread yX8_spread ∈ gz_TB ∧ Cond.initialized yX8_spread.cls ∈ gz_TB ∧ Cond.code yX8_spread cX8_spread 8 none ∈ gz_TB ∧ (yX8_spread.cls ≠ "java/lang/invoke/MethodHandle" ∧ yX8_spread.cls ≠ "java/lang/invoke/VarHandle" ∧ (parseMethodDescriptor yX8_spread.desc).map (fun d => d.parameters.length) = some 4) := ⟨gz_in 874 (by decide +kernel) rfl, gz_in 24 (by decide +kernel) rfl, gz_in 94 (by decide +kernel) rfl, gz_in 875 (by decide +kernel) rfl, by decide +kernel⟩
theorem wm_RX8_37 : gz_WV RX8 37 RX8 yX8_spread cX8_spread 8 4 none := ⟨Or.inl (gz_in 872 (by decide +kernel) rfl), wc_yX8_spread⟩
theorem wm_RX8_41 : gz_WV RX8 41 RX7 yX7_after cX7_after 5 2 (some (.int)) := ⟨Or.inl (gz_in 877 (by decide +kernel) rfl), wc_yX7_after⟩
theorem wf_RX8_18 : gz_FL RX8 18 RX8 "path" "[I" := Or.inl (gz_in 379 (by decide +kernel) rfl)
theorem wf_RX9_18 : gz_FL RX9 18 RX9 "rows" "[I" := Or.inl (gz_in 401 (by decide +kernel) rfl)
theorem wf_RX9_15 : gz_FL RX9 15 RX9 "cuts" "[I" := Or.inl (gz_in 399 (by decide +kernel) rfl)
theorem wm_RX9_29 : gz_WV RX9 29 RX7 yX7_atFirst cX7_atFirst 2 1 (some (.int)) := ⟨Or.inl (gz_in 910 (by decide +kernel) rfl), wc_yX7_atFirst⟩
theorem wm_RX9_35 : gz_WV RX9 35 RX5 yX5_get cX5_get 2 1 (some (.int)) := ⟨Or.inl (gz_in 911 (by decide +kernel) rfl), wc_yX5_get⟩
theorem wm_RX9_40 : gz_WV RX9 40 RX7 yX7_takersOf cX7_takersOf 3 2 (some (.int)) := ⟨Or.inl (gz_in 912 (by decide +kernel) rfl), wc_yX7_takersOf⟩
theorem wm_RX9_44 : gz_WV RX9 44 RX7 yX7_winner cX7_winner 4 2 (some (.int)) := ⟨Or.inl (gz_in 913 (by decide +kernel) rfl), wc_yX7_winner⟩
theorem wm_RX9_47 : gz_WV RX9 47 RX7 yX7_after cX7_after 5 2 (some (.int)) := ⟨Or.inl (gz_in 914 (by decide +kernel) rfl), wc_yX7_after⟩
theorem wf_RX9_9 : gz_FL RX9 9 RX9 "ends" "[I" := Or.inl (gz_in 398 (by decide +kernel) rfl)
theorem wc_yX9_endsFrom : Cond.static yX9_endsFrom ∈ gz_TB ∧ Cond.initialized yX9_endsFrom.cls ∈ gz_TB ∧ Cond.code yX9_endsFrom cX9_endsFrom 8 (some (.int)) ∈ gz_TB ∧ (yX9_endsFrom.cls ≠ "java/lang/invoke/MethodHandle" ∧ yX9_endsFrom.cls ≠ "java/lang/invoke/VarHandle" ∧ (parseMethodDescriptor yX9_endsFrom.desc).map (fun d => d.parameters.length) = some 4) := ⟨gz_in 908 (by decide +kernel) rfl, gz_in 95 (by decide +kernel) rfl, gz_in 909 (by decide +kernel) rfl, by decide +kernel⟩
theorem wm_RX9_21 : gz_WS RX9 21 yX9_endsFrom cX9_endsFrom 8 4 (some (.int)) := ⟨Or.inl (gz_in 907 (by decide +kernel) rfl), wc_yX9_endsFrom⟩
theorem wc_yX9_addRow : Cond.instanceMethod yX9_addRow ∈ gz_TB ∧ Cond.selects RX9 yX9_addRow yX9_addRow ∈ gz_TB ∧ Cond.initialized yX9_addRow.cls ∈ gz_TB ∧ Cond.code yX9_addRow cX9_addRow 3 none ∈ gz_TB ∧ (yX9_addRow.cls ≠ "java/lang/invoke/MethodHandle" ∧ yX9_addRow.cls ≠ "java/lang/invoke/VarHandle" ∧ (parseMethodDescriptor yX9_addRow.desc).map (fun d => d.parameters.length) = some 2) := ⟨gz_in 917 (by decide +kernel) rfl, gz_in 26 (by decide +kernel) rfl, gz_in 95 (by decide +kernel) rfl, gz_in 918 (by decide +kernel) rfl, by decide +kernel⟩
theorem wm_RX9_25 : gz_WV RX9 25 RX9 yX9_addRow cX9_addRow 3 2 none := ⟨Or.inl (gz_in 915 (by decide +kernel) rfl), wc_yX9_addRow⟩
theorem wf_RX1_128 : gz_FL RX1 128 RX7 "follow" "[[I" := Or.inr ⟨"LongestTokens", gz_inN 243 (by decide +kernel) rfl⟩
theorem wf_RX1_28 : gz_FL RX1 28 RX1 "mode" "I" := Or.inl (gz_in 157 (by decide +kernel) rfl)
theorem wk_RX1_117 : Cond.constant RX1 117 1048576 ∈ gz_TB := gz_in 614 (by decide +kernel) rfl
theorem wf_RX1_9 : gz_FL RX1 9 RX1 "chains" "[I" := Or.inl (gz_in 152 (by decide +kernel) rfl)
theorem wf_RX1_18 : gz_FL RX1 18 RX1 "open" "I" := Or.inl (gz_in 154 (by decide +kernel) rfl)
theorem wf_RX1_22 : gz_FL RX1 22 RX1 "part" "I" := Or.inl (gz_in 155 (by decide +kernel) rfl)
theorem wc_yX1_lastOf : Cond.static yX1_lastOf ∈ gz_TB ∧ Cond.initialized yX1_lastOf.cls ∈ gz_TB ∧ Cond.code yX1_lastOf cX1_lastOf 1 (some (.int)) ∈ gz_TB ∧ (yX1_lastOf.cls ≠ "java/lang/invoke/MethodHandle" ∧ yX1_lastOf.cls ≠ "java/lang/invoke/VarHandle" ∧ (parseMethodDescriptor yX1_lastOf.desc).map (fun d => d.parameters.length) = some 1) := ⟨gz_in 602 (by decide +kernel) rfl, gz_in 88 (by decide +kernel) rfl, gz_in 603 (by decide +kernel) rfl, by decide +kernel⟩
theorem wm_RX1_94 : gz_WS RX1 94 yX1_lastOf cX1_lastOf 1 1 (some (.int)) := ⟨Or.inl (gz_in 601 (by decide +kernel) rfl), wc_yX1_lastOf⟩
theorem wc_yX1_firstOf : Cond.static yX1_firstOf ∈ gz_TB ∧ Cond.initialized yX1_firstOf.cls ∈ gz_TB ∧ Cond.code yX1_firstOf cX1_firstOf 1 (some (.int)) ∈ gz_TB ∧ (yX1_firstOf.cls ≠ "java/lang/invoke/MethodHandle" ∧ yX1_firstOf.cls ≠ "java/lang/invoke/VarHandle" ∧ (parseMethodDescriptor yX1_firstOf.desc).map (fun d => d.parameters.length) = some 1) := ⟨gz_in 605 (by decide +kernel) rfl, gz_in 88 (by decide +kernel) rfl, gz_in 606 (by decide +kernel) rfl, by decide +kernel⟩
theorem wm_RX1_87 : gz_WS RX1 87 yX1_firstOf cX1_firstOf 1 1 (some (.int)) := ⟨Or.inl (gz_in 604 (by decide +kernel) rfl), wc_yX1_firstOf⟩
theorem wc_yX1_link : Cond.instanceMethod yX1_link ∈ gz_TB ∧ Cond.selects RX1 yX1_link yX1_link ∈ gz_TB ∧ Cond.initialized yX1_link.cls ∈ gz_TB ∧ Cond.code yX1_link cX1_link 5 none ∈ gz_TB ∧ (yX1_link.cls ≠ "java/lang/invoke/MethodHandle" ∧ yX1_link.cls ≠ "java/lang/invoke/VarHandle" ∧ (parseMethodDescriptor yX1_link.desc).map (fun d => d.parameters.length) = some 3) := ⟨gz_in 609 (by decide +kernel) rfl, gz_in 10 (by decide +kernel) rfl, gz_in 88 (by decide +kernel) rfl, gz_in 610 (by decide +kernel) rfl, by decide +kernel⟩
theorem wm_RX1_113 : gz_WV RX1 113 RX1 yX1_link cX1_link 5 3 none := ⟨Or.inl (gz_in 607 (by decide +kernel) rfl), wc_yX1_link⟩
theorem wc_yX1_mayBeEmpty : Cond.static yX1_mayBeEmpty ∈ gz_TB ∧ Cond.initialized yX1_mayBeEmpty.cls ∈ gz_TB ∧ Cond.code yX1_mayBeEmpty cX1_mayBeEmpty 1 (some (.boolean)) ∈ gz_TB ∧ (yX1_mayBeEmpty.cls ≠ "java/lang/invoke/MethodHandle" ∧ yX1_mayBeEmpty.cls ≠ "java/lang/invoke/VarHandle" ∧ (parseMethodDescriptor yX1_mayBeEmpty.desc).map (fun d => d.parameters.length) = some 1) := ⟨gz_in 612 (by decide +kernel) rfl, gz_in 88 (by decide +kernel) rfl, gz_in 613 (by decide +kernel) rfl, by decide +kernel⟩
theorem wm_RX1_101 : gz_WS RX1 101 yX1_mayBeEmpty cX1_mayBeEmpty 1 1 (some (.boolean)) := ⟨Or.inl (gz_in 611 (by decide +kernel) rfl), wc_yX1_mayBeEmpty⟩
theorem wc_yX1_endPart : Cond.instanceMethod yX1_endPart ∈ gz_TB ∧ Cond.selects RX1 yX1_endPart yX1_endPart ∈ gz_TB ∧ Cond.initialized yX1_endPart.cls ∈ gz_TB ∧ Cond.code yX1_endPart cX1_endPart 5 none ∈ gz_TB ∧ (yX1_endPart.cls ≠ "java/lang/invoke/MethodHandle" ∧ yX1_endPart.cls ≠ "java/lang/invoke/VarHandle" ∧ (parseMethodDescriptor yX1_endPart.desc).map (fun d => d.parameters.length) = some 1) := ⟨gz_in 599 (by decide +kernel) rfl, gz_in 9 (by decide +kernel) rfl, gz_in 88 (by decide +kernel) rfl, gz_in 600 (by decide +kernel) rfl, by decide +kernel⟩
theorem wm_RX1_104 : gz_WV RX1 104 RX1 yX1_endPart cX1_endPart 5 1 none := ⟨Or.inl (gz_in 597 (by decide +kernel) rfl), wc_yX1_endPart⟩
theorem wf_RX1_121 : gz_FL RX1 121 RX7 "used" "[I" := Or.inr ⟨"LongestTokens", gz_inN 239 (by decide +kernel) rfl⟩
theorem wf_RX1_72 : gz_FL RX1 72 RX7 "letters" "[I" := Or.inr ⟨"LongestTokens", gz_inN 222 (by decide +kernel) rfl⟩
theorem wf_RX1_25 : gz_FL RX1 25 RX1 "rule" "I" := Or.inl (gz_in 156 (by decide +kernel) rfl)
theorem wf_RX1_124 : gz_FL RX1 124 RX7 "takers" "[[I" := Or.inr ⟨"LongestTokens", gz_inN 245 (by decide +kernel) rfl⟩
theorem wf_RX1_64 : gz_FL RX1 64 RX7 "total" "I" := Or.inr ⟨"LongestTokens", gz_inN 215 (by decide +kernel) rfl⟩
theorem wm_RX1_67 : gz_WS RX1 67 yX11_isMode cX11_isMode 1 1 (some (.boolean)) := ⟨Or.inr ⟨"LongestTokens", gz_inN 586 (by decide +kernel) rfl⟩, wc_yX11_isMode⟩
theorem wf_RX1_70 : gz_FL RX1 70 RX7 "mode" "[I" := Or.inr ⟨"LongestTokens", gz_inN 219 (by decide +kernel) rfl⟩
theorem wf_RX1_75 : gz_FL RX1 75 RX7 "act" "[I" := Or.inr ⟨"LongestTokens", gz_inN 225 (by decide +kernel) rfl⟩
theorem wf_RX1_78 : gz_FL RX1 78 RX7 "digit" "[I" := Or.inr ⟨"LongestTokens", gz_inN 229 (by decide +kernel) rfl⟩
theorem wf_RX1_15 : gz_FL RX1 15 RX1 "wholes" "[I" := Or.inl (gz_in 153 (by decide +kernel) rfl)
theorem wc_yX1_endChain : Cond.instanceMethod yX1_endChain ∈ gz_TB ∧ Cond.selects RX1 yX1_endChain yX1_endChain ∈ gz_TB ∧ Cond.initialized yX1_endChain.cls ∈ gz_TB ∧ Cond.code yX1_endChain cX1_endChain 4 none ∈ gz_TB ∧ (yX1_endChain.cls ≠ "java/lang/invoke/MethodHandle" ∧ yX1_endChain.cls ≠ "java/lang/invoke/VarHandle" ∧ (parseMethodDescriptor yX1_endChain.desc).map (fun d => d.parameters.length) = some 1) := ⟨gz_in 595 (by decide +kernel) rfl, gz_in 8 (by decide +kernel) rfl, gz_in 88 (by decide +kernel) rfl, gz_in 596 (by decide +kernel) rfl, by decide +kernel⟩
theorem wm_RX1_81 : gz_WV RX1 81 RX1 yX1_endChain cX1_endChain 4 1 none := ⟨Or.inl (gz_in 593 (by decide +kernel) rfl), wc_yX1_endChain⟩
theorem wf_RX1_84 : gz_FL RX1 84 RX7 "opening" "[I" := Or.inr ⟨"LongestTokens", gz_inN 241 (by decide +kernel) rfl⟩
theorem wf_RX1_91 : gz_FL RX1 91 RX7 "last" "[I" := Or.inr ⟨"LongestTokens", gz_inN 233 (by decide +kernel) rfl⟩
theorem wf_RX1_97 : gz_FL RX1 97 RX7 "empty" "[Z" := Or.inr ⟨"LongestTokens", gz_inN 236 (by decide +kernel) rfl⟩
theorem wc_yX1_openBracket : Cond.instanceMethod yX1_openBracket ∈ gz_TB ∧ Cond.selects RX1 yX1_openBracket yX1_openBracket ∈ gz_TB ∧ Cond.initialized yX1_openBracket.cls ∈ gz_TB ∧ Cond.code yX1_openBracket cX1_openBracket 1 none ∈ gz_TB ∧ (yX1_openBracket.cls ≠ "java/lang/invoke/MethodHandle" ∧ yX1_openBracket.cls ≠ "java/lang/invoke/VarHandle" ∧ (parseMethodDescriptor yX1_openBracket.desc).map (fun d => d.parameters.length) = some 0) := ⟨gz_in 626 (by decide +kernel) rfl, gz_in 13 (by decide +kernel) rfl, gz_in 88 (by decide +kernel) rfl, gz_in 627 (by decide +kernel) rfl, by decide +kernel⟩
theorem wm_RX1_107 : gz_WV RX1 107 RX1 yX1_openBracket cX1_openBracket 1 0 none := ⟨Or.inl (gz_in 624 (by decide +kernel) rfl), wc_yX1_openBracket⟩
theorem wc_yX1_closeBracket : Cond.instanceMethod yX1_closeBracket ∈ gz_TB ∧ Cond.selects RX1 yX1_closeBracket yX1_closeBracket ∈ gz_TB ∧ Cond.initialized yX1_closeBracket.cls ∈ gz_TB ∧ Cond.code yX1_closeBracket cX1_closeBracket 1 none ∈ gz_TB ∧ (yX1_closeBracket.cls ≠ "java/lang/invoke/MethodHandle" ∧ yX1_closeBracket.cls ≠ "java/lang/invoke/VarHandle" ∧ (parseMethodDescriptor yX1_closeBracket.desc).map (fun d => d.parameters.length) = some 0) := ⟨gz_in 630 (by decide +kernel) rfl, gz_in 14 (by decide +kernel) rfl, gz_in 88 (by decide +kernel) rfl, gz_in 631 (by decide +kernel) rfl, by decide +kernel⟩
theorem wm_RX1_110 : gz_WV RX1 110 RX1 yX1_closeBracket cX1_closeBracket 1 0 none := ⟨Or.inl (gz_in 628 (by decide +kernel) rfl), wc_yX1_closeBracket⟩
theorem wc_yX1_takeAct : Cond.instanceMethod yX1_takeAct ∈ gz_TB ∧ Cond.selects RX1 yX1_takeAct yX1_takeAct ∈ gz_TB ∧ Cond.initialized yX1_takeAct.cls ∈ gz_TB ∧ Cond.code yX1_takeAct cX1_takeAct 3 none ∈ gz_TB ∧ (yX1_takeAct.cls ≠ "java/lang/invoke/MethodHandle" ∧ yX1_takeAct.cls ≠ "java/lang/invoke/VarHandle" ∧ (parseMethodDescriptor yX1_takeAct.desc).map (fun d => d.parameters.length) = some 2) := ⟨gz_in 634 (by decide +kernel) rfl, gz_in 15 (by decide +kernel) rfl, gz_in 88 (by decide +kernel) rfl, gz_in 635 (by decide +kernel) rfl, by decide +kernel⟩
theorem wm_RX1_118 : gz_WV RX1 118 RX1 yX1_takeAct cX1_takeAct 3 2 none := ⟨Or.inl (gz_in 632 (by decide +kernel) rfl), wc_yX1_takeAct⟩
theorem wc_yX7_clear : Cond.instanceMethod yX7_clear ∈ gz_TB ∧ Cond.selects RX7 yX7_clear yX7_clear ∈ gz_TB ∧ Cond.initialized yX7_clear.cls ∈ gz_TB ∧ Cond.code yX7_clear cX7_clear 2 none ∈ gz_TB ∧ (yX7_clear.cls ≠ "java/lang/invoke/MethodHandle" ∧ yX7_clear.cls ≠ "java/lang/invoke/VarHandle" ∧ (parseMethodDescriptor yX7_clear.desc).map (fun d => d.parameters.length) = some 0) := ⟨gz_in 576 (by decide +kernel) rfl, gz_in 577 (by decide +kernel) rfl, gz_in 91 (by decide +kernel) rfl, gz_in 578 (by decide +kernel) rfl, by decide +kernel⟩
theorem wm_RX1_31 : gz_WV RX1 31 RX7 yX7_clear cX7_clear 2 0 none := ⟨Or.inl (gz_in 575 (by decide +kernel) rfl), wc_yX7_clear⟩
theorem wf_RX1_36 : gz_FL RX1 36 RX0 "textLength" "I" := Or.inr ⟨"LongestTokens", gz_inN 196 (by decide +kernel) rfl⟩
theorem wf_RX1_41 : gz_FL RX1 41 RX0 "text" "[I" := Or.inr ⟨"LongestTokens", gz_inN 194 (by decide +kernel) rfl⟩
theorem wc_yX1_endRule : Cond.instanceMethod yX1_endRule ∈ gz_TB ∧ Cond.selects RX1 yX1_endRule yX1_endRule ∈ gz_TB ∧ Cond.initialized yX1_endRule.cls ∈ gz_TB ∧ Cond.code yX1_endRule cX1_endRule 3 none ∈ gz_TB ∧ (yX1_endRule.cls ≠ "java/lang/invoke/MethodHandle" ∧ yX1_endRule.cls ≠ "java/lang/invoke/VarHandle" ∧ (parseMethodDescriptor yX1_endRule.desc).map (fun d => d.parameters.length) = some 1) := ⟨gz_in 591 (by decide +kernel) rfl, gz_in 7 (by decide +kernel) rfl, gz_in 88 (by decide +kernel) rfl, gz_in 592 (by decide +kernel) rfl, by decide +kernel⟩
theorem wm_RX1_48 : gz_WV RX1 48 RX1 yX1_endRule cX1_endRule 3 1 none := ⟨Or.inl (gz_in 589 (by decide +kernel) rfl), wc_yX1_endRule⟩
theorem wm_RX1_52 : gz_WS RX1 52 yX3_isLetter cX3_isLetter 1 1 (some (.boolean)) := ⟨Or.inl (gz_in 615 (by decide +kernel) rfl), wc_yX3_isLetter⟩
theorem wc_yX1_take : Cond.instanceMethod yX1_take ∈ gz_TB ∧ Cond.selects RX1 yX1_take yX1_take ∈ gz_TB ∧ Cond.initialized yX1_take.cls ∈ gz_TB ∧ Cond.code yX1_take cX1_take 3 none ∈ gz_TB ∧ (yX1_take.cls ≠ "java/lang/invoke/MethodHandle" ∧ yX1_take.cls ≠ "java/lang/invoke/VarHandle" ∧ (parseMethodDescriptor yX1_take.desc).map (fun d => d.parameters.length) = some 2) := ⟨gz_in 622 (by decide +kernel) rfl, gz_in 12 (by decide +kernel) rfl, gz_in 88 (by decide +kernel) rfl, gz_in 623 (by decide +kernel) rfl, by decide +kernel⟩
theorem wm_RX1_61 : gz_WV RX1 61 RX1 yX1_take cX1_take 3 2 none := ⟨Or.inl (gz_in 620 (by decide +kernel) rfl), wc_yX1_take⟩
theorem wc_yX1_addLetter : Cond.instanceMethod yX1_addLetter ∈ gz_TB ∧ Cond.selects RX1 yX1_addLetter yX1_addLetter ∈ gz_TB ∧ Cond.initialized yX1_addLetter.cls ∈ gz_TB ∧ Cond.code yX1_addLetter cX1_addLetter 6 none ∈ gz_TB ∧ (yX1_addLetter.cls ≠ "java/lang/invoke/MethodHandle" ∧ yX1_addLetter.cls ≠ "java/lang/invoke/VarHandle" ∧ (parseMethodDescriptor yX1_addLetter.desc).map (fun d => d.parameters.length) = some 2) := ⟨gz_in 618 (by decide +kernel) rfl, gz_in 11 (by decide +kernel) rfl, gz_in 88 (by decide +kernel) rfl, gz_in 619 (by decide +kernel) rfl, by decide +kernel⟩
theorem wm_RX1_58 : gz_WV RX1 58 RX1 yX1_addLetter cX1_addLetter 6 2 none := ⟨Or.inl (gz_in 616 (by decide +kernel) rfl), wc_yX1_addLetter⟩
theorem wc_yX1_beginRule : Cond.instanceMethod yX1_beginRule ∈ gz_TB ∧ Cond.selects RX1 yX1_beginRule yX1_beginRule ∈ gz_TB ∧ Cond.initialized yX1_beginRule.cls ∈ gz_TB ∧ Cond.code yX1_beginRule cX1_beginRule 3 none ∈ gz_TB ∧ (yX1_beginRule.cls ≠ "java/lang/invoke/MethodHandle" ∧ yX1_beginRule.cls ≠ "java/lang/invoke/VarHandle" ∧ (parseMethodDescriptor yX1_beginRule.desc).map (fun d => d.parameters.length) = some 2) := ⟨gz_in 584 (by decide +kernel) rfl, gz_in 6 (by decide +kernel) rfl, gz_in 88 (by decide +kernel) rfl, gz_in 585 (by decide +kernel) rfl, by decide +kernel⟩
theorem wm_RX1_44 : gz_WV RX1 44 RX1 yX1_beginRule cX1_beginRule 3 2 none := ⟨Or.inl (gz_in 582 (by decide +kernel) rfl), wc_yX1_beginRule⟩
theorem wf_RX4_21 : gz_FL RX4 21 RX4 "size" "I" := Or.inl (gz_in 420 (by decide +kernel) rfl)
def f2_doAct_136 (k : Nat) (k0 : Nat) (M0 : gz_M) : Option (gz_M) := gz_lt (gz_w M0 k 1 (gz_max (M0.1 k 1) (M0.1 k 10))) fun M1 => some M1
theorem b2_doAct_136 {x : gz_X} {pf : Nat → Bool} {l : Launch} {M' : gz_M} (X : gz_Ok x cX2_doAct RX2 4 1 gz_cfC pf l) (hc : gx_cells x ≤ (gx_R x).cells ∧ gx_slots x ≤ (gx_R x).slots) (hE : gz_EV x cX2_doAct M') {k : Nat} {k0 : Nat} (hk : gz_IsX2 pf k) (hk0 : gz_IsX7 pf k0) : ∀ (M0 : gz_M), f2_doAct_136 k k0 M0 = some M' → gz_At x 136 [(0, .ref (gx_ad x k))] [] M0 := by
  intro  M0  hf
  rw [f2_doAct_136] at hf
  refine gr_aload_n X dX2_doAct_136 0 rfl rfl ?_
  refine gr_aload_n X dX2_doAct_137 0 rfl rfl ?_
  refine gf2_1 X (gk_X2o hk) wf_RX2_15 dX2_doAct_138 ?_
  refine gr_aload_n X dX2_doAct_141 0 rfl rfl ?_
  refine gf2_10 X (gk_X2o hk) wf_RX2_43 dX2_doAct_142 ?_
  refine gr_mmax X (by decide) wl_RX2_107 hc (Nat.le_of_ble_eq_true rfl) dX2_doAct_145 ?_
  obtain ⟨M1, eM1, hf⟩ := gz_lte hf
  refine gp2_1 X (gk_X2o hk) wf_RX2_15 eM1 dX2_doAct_148 ?_
  exact gz_EVu hE hf dX2_doAct_151

def f2_doAct (k : Nat) (k0 : Nat) (a1 : Int32) (M0 : gz_M) : Option (gz_M) := if a1 < 0 then (some M0) else (if a1 < (M0.1 k0 0) then (gz_ck (gz_inb a1 8) <| gz_lt ((M0.1 (k0 + 4) a1.toNatClampNeg) &&& 3) fun v4 => gz_ck (gz_inb a1 8) <| gz_lt (M0.1 (k0 + 3) a1.toNatClampNeg) fun v6 => if v6.toInt < 1 ∨ 3 < v6.toInt then (f2_doAct_136 k k0 M0) else if v6 = 1 then (if (M0.1 k 10) ≤ 1 then (f2_doAct_136 k k0 M0) else (gz_lt (gz_w M0 k 10 ((M0.1 k 10) - 1)) fun M10 => gz_lt (gz_w M10 k 11 (gz_shr (M10.1 k 11) 2)) fun M11 => f2_doAct_136 k k0 M11)) else if v6 = 2 then (gz_lt (gz_w M0 k 10 (gz_min ((M0.1 k 10) + 1) 5)) fun M13 => gz_lt (gz_w M13 k 11 (((gz_shl (M13.1 k 11) 2) ||| v4) &&& 1023)) fun M14 => f2_doAct_136 k k0 M14) else if v6 = 3 then (gz_lt (gz_w M0 k 11 (((M0.1 k 11) &&& (-4)) ||| v4)) fun M16 => f2_doAct_136 k k0 M16) else none) else (some M0))
set_option maxRecDepth 100000 in
theorem c2_doAct {pf : Nat → Bool} {l : Launch} {M0 M' : gz_M} {k : Nat} {k0 : Nat} {a1 : Int32} (hk : gz_IsX2 pf k) (hk0 : gz_IsX7 pf k0) (hf : f2_doAct k k0 a1 M0 = some M') : gz_CV l gz_cfC yX2_doAct cX2_doAct 4 1 (fun ad => [.ref (ad k), .ref (ad k0), .int a1]) pf M0 M' := by
  refine gz_ofV (by decide +kernel) (fun _ => Nat.le_of_ble_eq_true rfl) (fun x X hc hE => ?_)
  show gz_At x 0 [(0, .ref (gx_ad x k)), (1, .ref (gx_ad x k0)), (2, .int a1)] [] M0
  unfold f2_doAct at hf
  refine gr_iload_n X dX2_doAct_0 2 rfl rfl ?_
  refine gr_if_lt 12 X dX2_doAct_1 (by decide) (fun h1 => ?_) (fun h1 => ?_)
  · rw [if_pos h1] at hf
    exact gz_EVu hE hf dX2_doAct_12
  · rw [if_neg h1] at hf
    refine gr_iload_n X dX2_doAct_4 2 rfl rfl ?_
    refine gr_aload_n X dX2_doAct_5 1 rfl rfl ?_
    refine gf7_0 X (gk_X7o hk0) wf_RX2_93 dX2_doAct_6 ?_
    refine gr_icmp_lt 13 X dX2_doAct_9 (by decide) (fun h2 => ?_) (fun h2 => ?_)
    · rw [if_pos h2] at hf
      refine gr_aload_n X dX2_doAct_13 1 rfl rfl ?_
      refine gf7_4 X (gk_X7o hk0) wf_RX2_96 dX2_doAct_14 ?_
      refine gr_iload_n X dX2_doAct_17 2 rfl rfl ?_
      obtain ⟨h3, hf⟩ := gz_cke hf
      refine gr_iaload X (gk_X74 hk0) (gz_inp h3) dX2_doAct_18 ?_
      refine gr_iconst 3 X dX2_doAct_19 (by decide) ?_
      refine gr_iand X dX2_doAct_20 ?_
      obtain ⟨v4, ev4, hf⟩ := gz_lte hf
      refine gr_istore_n [(3, .int v4), (0, .ref (gx_ad x k)), (1, .ref (gx_ad x k0)), (2, .int a1)] X dX2_doAct_21 ev4 rfl (by decide) rfl ?_
      refine gr_aload_n X dX2_doAct_22 2 rfl rfl ?_
      refine gf7_3 X (gk_X7o hk0) wf_RX2_99 dX2_doAct_23 ?_
      refine gr_iload_n X dX2_doAct_26 3 rfl rfl ?_
      obtain ⟨h5, hf⟩ := gz_cke hf
      refine gr_iaload X (gk_X73 hk0) (gz_inp h5) dX2_doAct_27 ?_
      obtain ⟨v6, ev6, hf⟩ := gz_lte hf
      refine gr_top ev6 ?_
      by_cases h7 : v6.toInt < 1 ∨ 3 < v6.toInt
      · rw [if_pos h7] at hf
        refine gr_tsOut 136 X dX2_doAct_28 h7 (by decide) ?_
        refine gr_sub (lv' := [(0, .ref (gx_ad x k))]) [1] rfl ?_
        exact b2_doAct_136 X hc hE hk hk0  _ hf
      rw [if_neg h7] at hf
      by_cases h8 : v6 = 1
      · rw [if_pos h8] at hf
        refine gr_tsIn 1 28 56 X dX2_doAct_28 h8 (by decide) (by decide) (by decide) (by decide) ?_
        refine gr_aload_n X dX2_doAct_56 1 rfl rfl ?_
        refine gf2_10 X (gk_X2o hk) wf_RX2_43 dX2_doAct_57 ?_
        refine gr_iconst 1 X dX2_doAct_60 (by decide) ?_
        refine gr_icmp_le 136 X dX2_doAct_61 (by decide) (fun h9 => ?_) (fun h9 => ?_)
        · rw [if_pos h9] at hf
          refine gr_sub (lv' := [(0, .ref (gx_ad x k))]) [1] rfl ?_
          exact b2_doAct_136 X hc hE hk hk0  _ hf
        · rw [if_neg h9] at hf
          refine gr_aload_n X dX2_doAct_64 1 rfl rfl ?_
          refine gr_dup X dX2_doAct_65 rfl ?_
          refine gf2_10 X (gk_X2o hk) wf_RX2_43 dX2_doAct_66 ?_
          refine gr_iconst 1 X dX2_doAct_69 (by decide) ?_
          refine gr_isub X dX2_doAct_70 ?_
          obtain ⟨M10, eM10, hf⟩ := gz_lte hf
          refine gp2_10 X (gk_X2o hk) wf_RX2_43 eM10 dX2_doAct_71 ?_
          refine gr_aload_n X dX2_doAct_74 1 rfl rfl ?_
          refine gr_dup X dX2_doAct_75 rfl ?_
          refine gf2_11 X (gk_X2o hk) wf_RX2_46 dX2_doAct_76 ?_
          refine gr_iconst 2 X dX2_doAct_79 (by decide) ?_
          refine gr_ishr X dX2_doAct_80 ?_
          obtain ⟨M11, eM11, hf⟩ := gz_lte hf
          refine gp2_11 X (gk_X2o hk) wf_RX2_46 eM11 dX2_doAct_81 ?_
          refine gr_goto 136 X dX2_doAct_84 (by decide) ?_
          refine gr_sub (lv' := [(0, .ref (gx_ad x k))]) [1] rfl ?_
          exact b2_doAct_136 X hc hE hk hk0  _ hf
      rw [if_neg h8] at hf
      by_cases h12 : v6 = 2
      · rw [if_pos h12] at hf
        refine gr_tsIn 2 59 87 X dX2_doAct_28 h12 (by decide) (by decide) (by decide) (by decide) ?_
        refine gr_aload_n X dX2_doAct_87 1 rfl rfl ?_
        refine gr_aload_n X dX2_doAct_88 1 rfl rfl ?_
        refine gf2_10 X (gk_X2o hk) wf_RX2_43 dX2_doAct_89 ?_
        refine gr_iconst 1 X dX2_doAct_92 (by decide) ?_
        refine gr_iadd X dX2_doAct_93 ?_
        refine gr_iconst 5 X dX2_doAct_94 (by decide) ?_
        refine gr_mmin X (by decide) wl_RX2_102 hc (Nat.le_of_ble_eq_true rfl) dX2_doAct_95 ?_
        obtain ⟨M13, eM13, hf⟩ := gz_lte hf
        refine gp2_10 X (gk_X2o hk) wf_RX2_43 eM13 dX2_doAct_98 ?_
        refine gr_aload_n X dX2_doAct_101 1 rfl rfl ?_
        refine gr_aload_n X dX2_doAct_102 1 rfl rfl ?_
        refine gf2_11 X (gk_X2o hk) wf_RX2_46 dX2_doAct_103 ?_
        refine gr_iconst 2 X dX2_doAct_106 (by decide) ?_
        refine gr_ishl X dX2_doAct_107 ?_
        refine gr_iload_n X dX2_doAct_108 0 rfl rfl ?_
        refine gr_ior X dX2_doAct_109 ?_
        refine gr_sipush 1023 X dX2_doAct_110 (by decide) ?_
        refine gr_iand X dX2_doAct_113 ?_
        obtain ⟨M14, eM14, hf⟩ := gz_lte hf
        refine gp2_11 X (gk_X2o hk) wf_RX2_46 eM14 dX2_doAct_114 ?_
        refine gr_goto 136 X dX2_doAct_117 (by decide) ?_
        refine gr_sub (lv' := [(0, .ref (gx_ad x k))]) [1] rfl ?_
        exact b2_doAct_136 X hc hE hk hk0  _ hf
      rw [if_neg h12] at hf
      by_cases h15 : v6 = 3
      · rw [if_pos h15] at hf
        refine gr_tsIn 3 92 120 X dX2_doAct_28 h15 (by decide) (by decide) (by decide) (by decide) ?_
        refine gr_aload_n X dX2_doAct_120 1 rfl rfl ?_
        refine gr_aload_n X dX2_doAct_121 1 rfl rfl ?_
        refine gf2_11 X (gk_X2o hk) wf_RX2_46 dX2_doAct_122 ?_
        refine gr_bipush (-4) X dX2_doAct_125 (by decide) ?_
        refine gr_iand X dX2_doAct_127 ?_
        refine gr_iload_n X dX2_doAct_128 0 rfl rfl ?_
        refine gr_ior X dX2_doAct_129 ?_
        obtain ⟨M16, eM16, hf⟩ := gz_lte hf
        refine gp2_11 X (gk_X2o hk) wf_RX2_46 eM16 dX2_doAct_130 ?_
        refine gr_goto 136 X dX2_doAct_133 (by decide) ?_
        refine gr_sub (lv' := [(0, .ref (gx_ad x k))]) [1] rfl ?_
        exact b2_doAct_136 X hc hE hk hk0  _ hf
      rw [if_neg h15] at hf
      cases hf
    · rw [if_neg h2] at hf
      exact gz_EVu hE hf dX2_doAct_12

def f2_readFrom_114 (k : Nat) (k0 : Nat) (k1 : Nat) (c33 : Int32 → Int32 → Int32 → gz_M → Option (gz_M)) (x3 : Int32) (x6 : Int32) (x7 : Int32) (M0 : gz_M) : Option (gz_M) := gz_bd2 (f7_after k0 x3 x7 M0) fun v1 M2 => gz_lt (x6 + 1) fun v4 => c33 x3 v1 v4 M2
theorem b2_readFrom_114 {x : gz_X} {pf : Nat → Bool} {l : Launch} {M' : gz_M} (X : gz_Ok x cX2_readFrom RX2 9 3 gz_cfC pf l) (hc : gx_cells x ≤ (gx_R x).cells ∧ gx_slots x ≤ (gx_R x).slots) (hE : gz_EV x cX2_readFrom M') {k : Nat} {k0 : Nat} {k1 : Nat} (hk : gz_IsX2 pf k) (hk0 : gz_IsX7 pf k0) (hk1 : gz_IsX5 pf k1) {c33 : Int32 → Int32 → Int32 → gz_M → Option (gz_M)} (hc33 : ∀ (x3 : Int32) (x5 : Int32) (x6 : Int32) (M0 : gz_M), c33 x3 x5 x6 M0 = some M' → gz_At x 33 [(0, .ref (gx_ad x k)), (1, .ref (gx_ad x k0)), (2, .ref (gx_ad x k1)), (3, .int x3), (5, .int x5), (6, .int x6)] [] M0) : ∀ (x3 : Int32) (x6 : Int32) (x7 : Int32) (M0 : gz_M), f2_readFrom_114 k k0 k1 c33 x3 x6 x7 M0 = some M' → gz_At x 114 [(0, .ref (gx_ad x k)), (1, .ref (gx_ad x k0)), (2, .ref (gx_ad x k1)), (3, .int x3), (6, .int x6), (7, .int x7)] [] M0 := by
  intro x3 x6 x7 M0  hf
  rw [f2_readFrom_114] at hf
  refine gr_aload_n X dX2_readFrom_114 1 rfl rfl ?_
  refine gr_iload_n X dX2_readFrom_115 3 rfl rfl ?_
  refine gr_iload X dX2_readFrom_116 5 rfl ?_
  obtain ⟨v1, M2, q3, hf⟩ := gz_bd2e hf
  refine gr_callI (asF := fun ad => [.ref (ad k0), .int x3, .int x7]) [.int x3, .int x7] X (c7_after hk0 q3) rfl wm_RX2_90 rfl (X.kd (gk_X7o hk0)).1 ((X.kd (gk_X7o hk0)).2 _ _ _ _) rfl (by decide) (by decide) rfl (Nat.le_of_ble_eq_true rfl) hc dX2_readFrom_118 ?_
  refine gr_istore [(5, .int v1), (0, .ref (gx_ad x k)), (1, .ref (gx_ad x k0)), (2, .ref (gx_ad x k1)), (3, .int x3), (6, .int x6), (7, .int x7)] X dX2_readFrom_121 rfl (by decide) rfl ?_
  obtain ⟨v4, ev4, hf⟩ := gz_lte hf
  refine gr_iinc 1 [(6, .int v4), (5, .int v1), (0, .ref (gx_ad x k)), (1, .ref (gx_ad x k0)), (2, .ref (gx_ad x k1)), (3, .int x3), (7, .int x7)] X dX2_readFrom_123 5 rfl (by decide) ev4 (by decide) rfl ?_
  refine gr_goto 33 X dX2_readFrom_126 (by decide) ?_
  refine gr_sub (lv' := [(0, .ref (gx_ad x k)), (1, .ref (gx_ad x k0)), (2, .ref (gx_ad x k1)), (3, .int x3), (5, .int v1), (6, .int v4)]) [2, 3, 4, 5, 1, 0] rfl ?_
  exact hc33 _ _ _ _ hf

def f2_readFrom_85 (k : Nat) (k0 : Nat) (k1 : Nat) (c33 : Int32 → Int32 → Int32 → gz_M → Option (gz_M)) (x3 : Int32) (x6 : Int32) (x7 : Int32) (M0 : gz_M) : Option (gz_M) := gz_bd2 (f7_winner k0 x3 x7 M0) fun v1 M2 => if v1 = (-1) then (f2_readFrom_114 k k0 k1 c33 x3 x6 x7 M2) else (gz_lt (gz_w M2 k 12 v1) fun M5 => gz_lt (gz_w M5 k 13 (x6 + 1)) fun M6 => f2_readFrom_114 k k0 k1 c33 x3 x6 x7 M6)
theorem b2_readFrom_85 {x : gz_X} {pf : Nat → Bool} {l : Launch} {M' : gz_M} (X : gz_Ok x cX2_readFrom RX2 9 3 gz_cfC pf l) (hc : gx_cells x ≤ (gx_R x).cells ∧ gx_slots x ≤ (gx_R x).slots) (hE : gz_EV x cX2_readFrom M') {k : Nat} {k0 : Nat} {k1 : Nat} (hk : gz_IsX2 pf k) (hk0 : gz_IsX7 pf k0) (hk1 : gz_IsX5 pf k1) {c33 : Int32 → Int32 → Int32 → gz_M → Option (gz_M)} (hc33 : ∀ (x3 : Int32) (x5 : Int32) (x6 : Int32) (M0 : gz_M), c33 x3 x5 x6 M0 = some M' → gz_At x 33 [(0, .ref (gx_ad x k)), (1, .ref (gx_ad x k0)), (2, .ref (gx_ad x k1)), (3, .int x3), (5, .int x5), (6, .int x6)] [] M0) : ∀ (x3 : Int32) (x6 : Int32) (x7 : Int32) (M0 : gz_M), f2_readFrom_85 k k0 k1 c33 x3 x6 x7 M0 = some M' → gz_At x 85 [(0, .ref (gx_ad x k)), (1, .ref (gx_ad x k0)), (2, .ref (gx_ad x k1)), (3, .int x3), (6, .int x6), (7, .int x7)] [] M0 := by
  intro x3 x6 x7 M0  hf
  rw [f2_readFrom_85] at hf
  refine gr_aload_n X dX2_readFrom_85 1 rfl rfl ?_
  refine gr_iload_n X dX2_readFrom_86 3 rfl rfl ?_
  refine gr_iload X dX2_readFrom_87 5 rfl ?_
  obtain ⟨v1, M2, q3, hf⟩ := gz_bd2e hf
  refine gr_callI (asF := fun ad => [.ref (ad k0), .int x3, .int x7]) [.int x3, .int x7] X (c7_winner hk0 q3) rfl wm_RX2_87 rfl (X.kd (gk_X7o hk0)).1 ((X.kd (gk_X7o hk0)).2 _ _ _ _) rfl (by decide) (by decide) rfl (Nat.le_of_ble_eq_true rfl) hc dX2_readFrom_89 ?_
  refine gr_istore [(8, .int v1), (0, .ref (gx_ad x k)), (1, .ref (gx_ad x k0)), (2, .ref (gx_ad x k1)), (3, .int x3), (6, .int x6), (7, .int x7)] X dX2_readFrom_92 rfl (by decide) rfl ?_
  refine gr_iload X dX2_readFrom_94 0 rfl ?_
  refine gr_iconst (-1) X dX2_readFrom_96 (by decide) ?_
  refine gr_icmp_eq 114 X dX2_readFrom_97 (by decide) (fun h4 => ?_) (fun h4 => ?_)
  · rw [if_pos h4] at hf
    refine gr_sub (lv' := [(0, .ref (gx_ad x k)), (1, .ref (gx_ad x k0)), (2, .ref (gx_ad x k1)), (3, .int x3), (6, .int x6), (7, .int x7)]) [1, 2, 3, 4, 5, 6] rfl ?_
    exact b2_readFrom_114 X hc hE hk hk0 hk1 hc33 _ _ _ _ hf
  · rw [if_neg h4] at hf
    refine gr_aload_n X dX2_readFrom_100 1 rfl rfl ?_
    refine gr_iload X dX2_readFrom_101 0 rfl ?_
    obtain ⟨M5, eM5, hf⟩ := gz_lte hf
    refine gp2_12 X (gk_X2o hk) wf_RX2_49 eM5 dX2_readFrom_103 ?_
    refine gr_aload_n X dX2_readFrom_106 1 rfl rfl ?_
    refine gr_iload X dX2_readFrom_107 5 rfl ?_
    refine gr_iconst 1 X dX2_readFrom_109 (by decide) ?_
    refine gr_iadd X dX2_readFrom_110 ?_
    obtain ⟨M6, eM6, hf⟩ := gz_lte hf
    refine gp2_13 X (gk_X2o hk) wf_RX2_52 eM6 dX2_readFrom_111 ?_
    refine gr_sub (lv' := [(0, .ref (gx_ad x k)), (1, .ref (gx_ad x k0)), (2, .ref (gx_ad x k1)), (3, .int x3), (6, .int x6), (7, .int x7)]) [1, 2, 3, 4, 5, 6] rfl ?_
    exact b2_readFrom_114 X hc hE hk hk0 hk1 hc33 _ _ _ _ hf

def f2_readFrom_33 (k : Nat) (k0 : Nat) (k1 : Nat) : Nat → Int32 → Int32 → Int32 → gz_M → Option (gz_M)
  | 0, _, _, _, _ => none
  | n + 1, x3, x5, x6, M0 => if (M0.1 k1 1) ≤ x6 then (some M0) else (if (M0.1 k 15) = (-1) then (gz_bd2 (f5_get k1 x6 M0) fun v3 M4 => gz_bd2 (f7_takersOf k0 x3 v3 M4) fun v6 M7 => gz_lt (x5 &&& v6) fun v9 => gz_lt (gz_w M7 k 14 (x6 + 1)) fun M10 => if v9 = 0 then (gz_lt (gz_w M10 k 15 x6) fun M12 => f2_readFrom_85 k k0 k1 (f2_readFrom_33 k k0 k1 n) x3 x6 v9 M12) else (f2_readFrom_85 k k0 k1 (f2_readFrom_33 k k0 k1 n) x3 x6 v9 M10)) else (some M0))
theorem b2_readFrom_33 {x : gz_X} {pf : Nat → Bool} {l : Launch} {M' : gz_M} (X : gz_Ok x cX2_readFrom RX2 9 3 gz_cfC pf l) (hc : gx_cells x ≤ (gx_R x).cells ∧ gx_slots x ≤ (gx_R x).slots) (hE : gz_EV x cX2_readFrom M') {k : Nat} {k0 : Nat} {k1 : Nat} (hk : gz_IsX2 pf k) (hk0 : gz_IsX7 pf k0) (hk1 : gz_IsX5 pf k1) : ∀ (n : Nat) (x3 : Int32) (x5 : Int32) (x6 : Int32) (M0 : gz_M), f2_readFrom_33 k k0 k1 n x3 x5 x6 M0 = some M' → gz_At x 33 [(0, .ref (gx_ad x k)), (1, .ref (gx_ad x k0)), (2, .ref (gx_ad x k1)), (3, .int x3), (5, .int x5), (6, .int x6)] [] M0 := by
  intro n
  induction n with
  | zero =>
    intro x3 x5 x6 M0  hf
    rw [f2_readFrom_33] at hf
    cases hf
  | succ n ih =>
    intro x3 x5 x6 M0  hf
    rw [f2_readFrom_33] at hf
    refine gr_iload X dX2_readFrom_33 5 rfl ?_
    refine gr_aload_n X dX2_readFrom_35 2 rfl rfl ?_
    refine gf5_1 X (gk_X5o hk1) wf_RX2_61 dX2_readFrom_36 ?_
    refine gr_icmp_ge 129 X dX2_readFrom_39 (by decide) (fun h1 => ?_) (fun h1 => ?_)
    · rw [if_pos h1] at hf
      exact gz_EVu hE hf dX2_readFrom_129
    · rw [if_neg h1] at hf
      refine gr_aload_n X dX2_readFrom_42 0 rfl rfl ?_
      refine gf2_15 X (gk_X2o hk) wf_RX2_58 dX2_readFrom_43 ?_
      refine gr_iconst (-1) X dX2_readFrom_46 (by decide) ?_
      refine gr_icmp_ne 129 X dX2_readFrom_47 (by decide) (fun h2 => ?_) (fun h2 => ?_)
      · rw [if_pos h2] at hf
        refine gr_iload X dX2_readFrom_50 4 rfl ?_
        refine gr_aload_n X dX2_readFrom_52 1 rfl rfl ?_
        refine gr_iload_n X dX2_readFrom_53 3 rfl rfl ?_
        refine gr_aload_n X dX2_readFrom_54 2 rfl rfl ?_
        refine gr_iload X dX2_readFrom_55 5 rfl ?_
        obtain ⟨v3, M4, q5, hf⟩ := gz_bd2e hf
        refine gr_callI (asF := fun ad => [.ref (ad k1), .int x6]) [.int x6] X (c5_get hk1 q5) rfl wm_RX2_80 rfl (X.kd (gk_X5o hk1)).1 ((X.kd (gk_X5o hk1)).2 _ _ _ _) rfl (by decide) (by decide) rfl (Nat.le_of_ble_eq_true rfl) hc dX2_readFrom_57 ?_
        obtain ⟨v6, M7, q8, hf⟩ := gz_bd2e hf
        refine gr_callI (asF := fun ad => [.ref (ad k0), .int x3, .int v3]) [.int x3, .int v3] X (c7_takersOf hk0 q8) rfl wm_RX2_83 rfl (X.kd (gk_X7o hk0)).1 ((X.kd (gk_X7o hk0)).2 _ _ _ _) rfl (by decide) (by decide) rfl (Nat.le_of_ble_eq_true rfl) hc dX2_readFrom_60 ?_
        refine gr_iand X dX2_readFrom_63 ?_
        obtain ⟨v9, ev9, hf⟩ := gz_lte hf
        refine gr_istore [(7, .int v9), (0, .ref (gx_ad x k)), (1, .ref (gx_ad x k0)), (2, .ref (gx_ad x k1)), (3, .int x3), (5, .int x5), (6, .int x6)] X dX2_readFrom_64 ev9 (by decide) rfl ?_
        refine gr_aload_n X dX2_readFrom_66 1 rfl rfl ?_
        refine gr_iload X dX2_readFrom_67 6 rfl ?_
        refine gr_iconst 1 X dX2_readFrom_69 (by decide) ?_
        refine gr_iadd X dX2_readFrom_70 ?_
        obtain ⟨M10, eM10, hf⟩ := gz_lte hf
        refine gp2_14 X (gk_X2o hk) wf_RX2_55 eM10 dX2_readFrom_71 ?_
        refine gr_iload X dX2_readFrom_74 0 rfl ?_
        refine gr_if_ne 85 X dX2_readFrom_76 (by decide) (fun h11 => ?_) (fun h11 => ?_)
        · rw [if_pos h11] at hf
          refine gr_aload_n X dX2_readFrom_79 1 rfl rfl ?_
          refine gr_iload X dX2_readFrom_80 6 rfl ?_
          obtain ⟨M12, eM12, hf⟩ := gz_lte hf
          refine gp2_15 X (gk_X2o hk) wf_RX2_58 eM12 dX2_readFrom_82 ?_
          refine gr_sub (lv' := [(0, .ref (gx_ad x k)), (1, .ref (gx_ad x k0)), (2, .ref (gx_ad x k1)), (3, .int x3), (6, .int x6), (7, .int v9)]) [1, 2, 3, 4, 6, 0] rfl ?_
          exact b2_readFrom_85 X hc hE hk hk0 hk1 ih _ _ _ _ hf
        · rw [if_neg h11] at hf
          refine gr_sub (lv' := [(0, .ref (gx_ad x k)), (1, .ref (gx_ad x k0)), (2, .ref (gx_ad x k1)), (3, .int x3), (6, .int x6), (7, .int v9)]) [1, 2, 3, 4, 6, 0] rfl ?_
          exact b2_readFrom_85 X hc hE hk hk0 hk1 ih _ _ _ _ hf
      · rw [if_neg h2] at hf
        exact gz_EVu hE hf dX2_readFrom_129

def f2_readFrom (k : Nat) (k0 : Nat) (k1 : Nat) (a2 : Int32) (a3 : Int32) (M0 : gz_M) : Option (gz_M) := gz_lt (gz_w M0 k 12 (-1)) fun M1 => gz_lt (gz_w M1 k 13 a3) fun M2 => gz_lt (gz_w M2 k 14 a3) fun M3 => gz_lt (gz_w M3 k 15 (-1)) fun M4 => gz_bd2 (f7_atFirst k0 a2 M4) fun v5 M6 => f2_readFrom_33 k k0 k1 gz_FU a2 v5 a3 M6
set_option maxRecDepth 100000 in
theorem c2_readFrom {pf : Nat → Bool} {l : Launch} {M0 M' : gz_M} {k : Nat} {k0 : Nat} {k1 : Nat} {a2 : Int32} {a3 : Int32} (hk : gz_IsX2 pf k) (hk0 : gz_IsX7 pf k0) (hk1 : gz_IsX5 pf k1) (hf : f2_readFrom k k0 k1 a2 a3 M0 = some M') : gz_CV l gz_cfC yX2_readFrom cX2_readFrom 9 3 (fun ad => [.ref (ad k), .ref (ad k0), .ref (ad k1), .int a2, .int a3]) pf M0 M' := by
  refine gz_ofV (by decide +kernel) (fun _ => Nat.le_of_ble_eq_true rfl) (fun x X hc hE => ?_)
  show gz_At x 0 [(0, .ref (gx_ad x k)), (1, .ref (gx_ad x k0)), (2, .ref (gx_ad x k1)), (3, .int a2), (4, .int a3)] [] M0
  unfold f2_readFrom at hf
  refine gr_aload_n X dX2_readFrom_0 0 rfl rfl ?_
  refine gr_iconst (-1) X dX2_readFrom_1 (by decide) ?_
  obtain ⟨M1, eM1, hf⟩ := gz_lte hf
  refine gp2_12 X (gk_X2o hk) wf_RX2_49 eM1 dX2_readFrom_2 ?_
  refine gr_aload_n X dX2_readFrom_5 0 rfl rfl ?_
  refine gr_iload X dX2_readFrom_6 4 rfl ?_
  obtain ⟨M2, eM2, hf⟩ := gz_lte hf
  refine gp2_13 X (gk_X2o hk) wf_RX2_52 eM2 dX2_readFrom_8 ?_
  refine gr_aload_n X dX2_readFrom_11 0 rfl rfl ?_
  refine gr_iload X dX2_readFrom_12 4 rfl ?_
  obtain ⟨M3, eM3, hf⟩ := gz_lte hf
  refine gp2_14 X (gk_X2o hk) wf_RX2_55 eM3 dX2_readFrom_14 ?_
  refine gr_aload_n X dX2_readFrom_17 0 rfl rfl ?_
  refine gr_iconst (-1) X dX2_readFrom_18 (by decide) ?_
  obtain ⟨M4, eM4, hf⟩ := gz_lte hf
  refine gp2_15 X (gk_X2o hk) wf_RX2_58 eM4 dX2_readFrom_19 ?_
  refine gr_aload_n X dX2_readFrom_22 1 rfl rfl ?_
  refine gr_iload_n X dX2_readFrom_23 3 rfl rfl ?_
  obtain ⟨v5, M6, q7, hf⟩ := gz_bd2e hf
  refine gr_callI (asF := fun ad => [.ref (ad k0), .int a2]) [.int a2] X (c7_atFirst hk0 q7) rfl wm_RX2_74 rfl (X.kd (gk_X7o hk0)).1 ((X.kd (gk_X7o hk0)).2 _ _ _ _) rfl (by decide) (by decide) rfl (Nat.le_of_ble_eq_true rfl) hc dX2_readFrom_24 ?_
  refine gr_istore [(5, .int v5), (0, .ref (gx_ad x k)), (1, .ref (gx_ad x k0)), (2, .ref (gx_ad x k1)), (3, .int a2), (4, .int a3)] X dX2_readFrom_27 rfl (by decide) rfl ?_
  refine gr_iload X dX2_readFrom_29 5 rfl ?_
  refine gr_istore [(6, .int a3), (5, .int v5), (0, .ref (gx_ad x k)), (1, .ref (gx_ad x k0)), (2, .ref (gx_ad x k1)), (3, .int a2), (4, .int a3)] X dX2_readFrom_31 rfl (by decide) rfl ?_
  refine gr_sub (lv' := [(0, .ref (gx_ad x k)), (1, .ref (gx_ad x k0)), (2, .ref (gx_ad x k1)), (3, .int a2), (5, .int v5), (6, .int a3)]) [2, 3, 4, 5, 1, 0] rfl ?_
  exact b2_readFrom_33 X hc hE hk hk0 hk1 _ _ _ _ _ hf

def f2_make_100 (k : Nat) (k0 : Nat) (k1 : Nat) (c25 : Int32 → Int32 → gz_M → Option (gz_M)) (x4 : Int32) (x5 : Int32) (s0 : Int32) (s1 : Int32) (M0 : gz_M) : Option (gz_M) := gz_ck (gz_inb s1 24) <| gz_lt (gz_w M0 (k + 3) s1.toNatClampNeg s0) fun M2 => gz_ck (gz_inb x4 24) <| gz_lt (gz_w M2 (k + 4) x4.toNatClampNeg (M2.1 k 14)) fun M4 => gz_ck (gz_inb x4 24) <| gz_lt (gz_w M4 (k + 5) x4.toNatClampNeg (M4.1 k 15)) fun M6 => gz_ck (gz_inb x4 24) <| gz_lt (gz_w M6 (k + 6) x4.toNatClampNeg x5) fun M8 => gz_bd (f2_doAct k k0 (M8.1 k 12) M8) fun M9 => gz_ck (gz_inb x4 24) <| gz_lt (gz_w M9 (k + 7) x4.toNatClampNeg (M9.1 k 10)) fun M12 => gz_ck (gz_inb x4 24) <| gz_lt (gz_w M12 (k + 8) x4.toNatClampNeg (M12.1 k 11)) fun M14 => gz_ck (gz_inb x4 24) <| gz_lt (M14.1 (k + 3) x4.toNatClampNeg) fun v16 => gz_lt (gz_w M14 k 0 (x4 + 1)) fun M17 => gz_lt (x4 + 1) fun v18 => c25 v16 v18 M17
theorem b2_make_100 {x : gz_X} {pf : Nat → Bool} {l : Launch} {M' : gz_M} (X : gz_Ok x cX2_make RX2 6 4 gz_cfC pf l) (hc : gx_cells x ≤ (gx_R x).cells ∧ gx_slots x ≤ (gx_R x).slots) (hE : gz_EV x cX2_make M') {k : Nat} {k0 : Nat} {k1 : Nat} (hk : gz_IsX2 pf k) (hk0 : gz_IsX7 pf k0) (hk1 : gz_IsX5 pf k1) {c25 : Int32 → Int32 → gz_M → Option (gz_M)} (hc25 : ∀ (x3 : Int32) (x4 : Int32) (M0 : gz_M), c25 x3 x4 M0 = some M' → gz_At x 25 [(0, .ref (gx_ad x k)), (1, .ref (gx_ad x k0)), (2, .ref (gx_ad x k1)), (3, .int x3), (4, .int x4)] [] M0) : ∀ (x4 : Int32) (x5 : Int32) (s0 : Int32) (s1 : Int32) (M0 : gz_M), f2_make_100 k k0 k1 c25 x4 x5 s0 s1 M0 = some M' → gz_At x 100 [(0, .ref (gx_ad x k)), (1, .ref (gx_ad x k0)), (2, .ref (gx_ad x k1)), (4, .int x4), (5, .int x5)] [.int s0, .int s1, .ref (gx_ad x (k + 3))] M0 := by
  intro x4 x5 s0 s1 M0  hf
  rw [f2_make_100] at hf
  obtain ⟨h1, hf⟩ := gz_cke hf
  obtain ⟨M2, eM2, hf⟩ := gz_lte hf
  refine gr_iastore X (gk_X23 hk) (gz_inp h1) eM2 dX2_make_100 ?_
  refine gr_aload_n X dX2_make_101 0 rfl rfl ?_
  refine gf2_5 X (gk_X2o hk) wf_RX2_28 dX2_make_102 ?_
  refine gr_iload X dX2_make_105 3 rfl ?_
  refine gr_aload_n X dX2_make_107 0 rfl rfl ?_
  refine gf2_14 X (gk_X2o hk) wf_RX2_55 dX2_make_108 ?_
  obtain ⟨h3, hf⟩ := gz_cke hf
  obtain ⟨M4, eM4, hf⟩ := gz_lte hf
  refine gr_iastore X (gk_X24 hk) (gz_inp h3) eM4 dX2_make_111 ?_
  refine gr_aload_n X dX2_make_112 0 rfl rfl ?_
  refine gf2_6 X (gk_X2o hk) wf_RX2_31 dX2_make_113 ?_
  refine gr_iload X dX2_make_116 3 rfl ?_
  refine gr_aload_n X dX2_make_118 0 rfl rfl ?_
  refine gf2_15 X (gk_X2o hk) wf_RX2_58 dX2_make_119 ?_
  obtain ⟨h5, hf⟩ := gz_cke hf
  obtain ⟨M6, eM6, hf⟩ := gz_lte hf
  refine gr_iastore X (gk_X25 hk) (gz_inp h5) eM6 dX2_make_122 ?_
  refine gr_aload_n X dX2_make_123 0 rfl rfl ?_
  refine gf2_7 X (gk_X2o hk) wf_RX2_34 dX2_make_124 ?_
  refine gr_iload X dX2_make_127 3 rfl ?_
  refine gr_iload X dX2_make_129 4 rfl ?_
  obtain ⟨h7, hf⟩ := gz_cke hf
  obtain ⟨M8, eM8, hf⟩ := gz_lte hf
  refine gr_iastore X (gk_X26 hk) (gz_inp h7) eM8 dX2_make_131 ?_
  refine gr_aload_n X dX2_make_132 0 rfl rfl ?_
  refine gr_aload_n X dX2_make_133 1 rfl rfl ?_
  refine gr_aload_n X dX2_make_134 0 rfl rfl ?_
  refine gf2_12 X (gk_X2o hk) wf_RX2_49 dX2_make_135 ?_
  obtain ⟨M9, q10, hf⟩ := gz_bde hf
  refine gr_callV (asF := fun ad => [.ref (ad k), .ref (ad k0), .int (M8.1 k 12)]) [.ref (gx_ad x k0), .int (M8.1 k 12)] X (c2_doAct hk hk0 q10) rfl wm_RX2_70 rfl (X.kd (gk_X2o hk)).1 ((X.kd (gk_X2o hk)).2 _ _ _ _) rfl (by decide) (by decide) rfl (Nat.le_of_ble_eq_true rfl) hc dX2_make_138 ?_
  refine gr_aload_n X dX2_make_141 0 rfl rfl ?_
  refine gf2_8 X (gk_X2o hk) wf_RX2_37 dX2_make_142 ?_
  refine gr_iload X dX2_make_145 3 rfl ?_
  refine gr_aload_n X dX2_make_147 0 rfl rfl ?_
  refine gf2_10 X (gk_X2o hk) wf_RX2_43 dX2_make_148 ?_
  obtain ⟨h11, hf⟩ := gz_cke hf
  obtain ⟨M12, eM12, hf⟩ := gz_lte hf
  refine gr_iastore X (gk_X27 hk) (gz_inp h11) eM12 dX2_make_151 ?_
  refine gr_aload_n X dX2_make_152 0 rfl rfl ?_
  refine gf2_9 X (gk_X2o hk) wf_RX2_40 dX2_make_153 ?_
  refine gr_iload X dX2_make_156 3 rfl ?_
  refine gr_aload_n X dX2_make_158 0 rfl rfl ?_
  refine gf2_11 X (gk_X2o hk) wf_RX2_46 dX2_make_159 ?_
  obtain ⟨h13, hf⟩ := gz_cke hf
  obtain ⟨M14, eM14, hf⟩ := gz_lte hf
  refine gr_iastore X (gk_X28 hk) (gz_inp h13) eM14 dX2_make_162 ?_
  refine gr_aload_n X dX2_make_163 0 rfl rfl ?_
  refine gf2_4 X (gk_X2o hk) wf_RX2_25 dX2_make_164 ?_
  refine gr_iload X dX2_make_167 3 rfl ?_
  obtain ⟨h15, hf⟩ := gz_cke hf
  refine gr_iaload X (gk_X23 hk) (gz_inp h15) dX2_make_169 ?_
  obtain ⟨v16, ev16, hf⟩ := gz_lte hf
  refine gr_istore_n [(3, .int v16), (0, .ref (gx_ad x k)), (1, .ref (gx_ad x k0)), (2, .ref (gx_ad x k1)), (4, .int x4), (5, .int x5)] X dX2_make_170 ev16 rfl (by decide) rfl ?_
  refine gr_aload_n X dX2_make_171 1 rfl rfl ?_
  refine gr_iload X dX2_make_172 4 rfl ?_
  refine gr_iconst 1 X dX2_make_174 (by decide) ?_
  refine gr_iadd X dX2_make_175 ?_
  obtain ⟨M17, eM17, hf⟩ := gz_lte hf
  refine gp2_0 X (gk_X2o hk) wf_RX2_9 eM17 dX2_make_176 ?_
  obtain ⟨v18, ev18, hf⟩ := gz_lte hf
  refine gr_iinc 1 [(4, .int v18), (3, .int v16), (0, .ref (gx_ad x k)), (1, .ref (gx_ad x k0)), (2, .ref (gx_ad x k1)), (5, .int x5)] X dX2_make_179 4 rfl (by decide) ev18 (by decide) rfl ?_
  refine gr_goto 25 X dX2_make_182 (by decide) ?_
  refine gr_sub (lv' := [(0, .ref (gx_ad x k)), (1, .ref (gx_ad x k0)), (2, .ref (gx_ad x k1)), (3, .int v16), (4, .int v18)]) [2, 3, 4, 1, 0] rfl ?_
  exact hc25 _ _ _ hf

def f2_make_25 (k : Nat) (k0 : Nat) (k1 : Nat) : Nat → Int32 → Int32 → gz_M → Option (gz_M)
  | 0, _, _, _ => none
  | n + 1, x3, x4, M0 => if 24 ≤ x4 then (some M0) else (if (M0.1 k1 1) ≤ x3 then (some M0) else (gz_lt ((M0.1 k 11) &&& 3) fun v3 => gz_bd (f2_readFrom k k0 k1 v3 x3 M0) fun M4 => gz_ck (gz_inb x4 24) <| gz_lt (gz_w M4 (k + 2) x4.toNatClampNeg x3) fun M7 => gz_ck (gz_inb x4 24) <| gz_lt (gz_w M7 (k + 1) x4.toNatClampNeg (M7.1 k 12)) fun M9 => if (M9.1 k 12) = (-1) then (f2_make_100 k k0 k1 (f2_make_25 k k0 k1 n) x4 v3 (x3 + 1) x4 M9) else (f2_make_100 k k0 k1 (f2_make_25 k k0 k1 n) x4 v3 (M9.1 k 13) x4 M9)))
theorem b2_make_25 {x : gz_X} {pf : Nat → Bool} {l : Launch} {M' : gz_M} (X : gz_Ok x cX2_make RX2 6 4 gz_cfC pf l) (hc : gx_cells x ≤ (gx_R x).cells ∧ gx_slots x ≤ (gx_R x).slots) (hE : gz_EV x cX2_make M') {k : Nat} {k0 : Nat} {k1 : Nat} (hk : gz_IsX2 pf k) (hk0 : gz_IsX7 pf k0) (hk1 : gz_IsX5 pf k1) : ∀ (n : Nat) (x3 : Int32) (x4 : Int32) (M0 : gz_M), f2_make_25 k k0 k1 n x3 x4 M0 = some M' → gz_At x 25 [(0, .ref (gx_ad x k)), (1, .ref (gx_ad x k0)), (2, .ref (gx_ad x k1)), (3, .int x3), (4, .int x4)] [] M0 := by
  intro n
  induction n with
  | zero =>
    intro x3 x4 M0  hf
    rw [f2_make_25] at hf
    cases hf
  | succ n ih =>
    intro x3 x4 M0  hf
    rw [f2_make_25] at hf
    refine gr_iload X dX2_make_25 4 rfl ?_
    refine gr_bipush 24 X dX2_make_27 (by decide) ?_
    refine gr_icmp_ge 185 X dX2_make_29 (by decide) (fun h1 => ?_) (fun h1 => ?_)
    · rw [if_pos h1] at hf
      exact gz_EVu hE hf dX2_make_185
    · rw [if_neg h1] at hf
      refine gr_iload_n X dX2_make_32 3 rfl rfl ?_
      refine gr_aload_n X dX2_make_33 2 rfl rfl ?_
      refine gf5_1 X (gk_X5o hk1) wf_RX2_61 dX2_make_34 ?_
      refine gr_icmp_ge 185 X dX2_make_37 (by decide) (fun h2 => ?_) (fun h2 => ?_)
      · rw [if_pos h2] at hf
        exact gz_EVu hE hf dX2_make_185
      · rw [if_neg h2] at hf
        refine gr_aload_n X dX2_make_40 0 rfl rfl ?_
        refine gf2_11 X (gk_X2o hk) wf_RX2_46 dX2_make_41 ?_
        refine gr_iconst 3 X dX2_make_44 (by decide) ?_
        refine gr_iand X dX2_make_45 ?_
        obtain ⟨v3, ev3, hf⟩ := gz_lte hf
        refine gr_istore [(5, .int v3), (0, .ref (gx_ad x k)), (1, .ref (gx_ad x k0)), (2, .ref (gx_ad x k1)), (3, .int x3), (4, .int x4)] X dX2_make_46 ev3 (by decide) rfl ?_
        refine gr_aload_n X dX2_make_48 1 rfl rfl ?_
        refine gr_aload_n X dX2_make_49 2 rfl rfl ?_
        refine gr_aload_n X dX2_make_50 3 rfl rfl ?_
        refine gr_iload X dX2_make_51 0 rfl ?_
        refine gr_iload_n X dX2_make_53 4 rfl rfl ?_
        obtain ⟨M4, q5, hf⟩ := gz_bde hf
        refine gr_callV (asF := fun ad => [.ref (ad k), .ref (ad k0), .ref (ad k1), .int v3, .int x3]) [.ref (gx_ad x k0), .ref (gx_ad x k1), .int v3, .int x3] X (c2_readFrom hk hk0 hk1 q5) rfl wm_RX2_66 rfl (X.kd (gk_X2o hk)).1 ((X.kd (gk_X2o hk)).2 _ _ _ _) rfl (by decide) (by decide) rfl (Nat.le_of_ble_eq_true rfl) hc dX2_make_54 ?_
        refine gr_aload_n X dX2_make_57 1 rfl rfl ?_
        refine gf2_3 X (gk_X2o hk) wf_RX2_22 dX2_make_58 ?_
        refine gr_iload X dX2_make_61 5 rfl ?_
        refine gr_iload_n X dX2_make_63 4 rfl rfl ?_
        obtain ⟨h6, hf⟩ := gz_cke hf
        obtain ⟨M7, eM7, hf⟩ := gz_lte hf
        refine gr_iastore X (gk_X22 hk) (gz_inp h6) eM7 dX2_make_64 ?_
        refine gr_aload_n X dX2_make_65 1 rfl rfl ?_
        refine gf2_2 X (gk_X2o hk) wf_RX2_18 dX2_make_66 ?_
        refine gr_iload X dX2_make_69 5 rfl ?_
        refine gr_aload_n X dX2_make_71 1 rfl rfl ?_
        refine gf2_12 X (gk_X2o hk) wf_RX2_49 dX2_make_72 ?_
        obtain ⟨h8, hf⟩ := gz_cke hf
        obtain ⟨M9, eM9, hf⟩ := gz_lte hf
        refine gr_iastore X (gk_X21 hk) (gz_inp h8) eM9 dX2_make_75 ?_
        refine gr_aload_n X dX2_make_76 1 rfl rfl ?_
        refine gf2_4 X (gk_X2o hk) wf_RX2_25 dX2_make_77 ?_
        refine gr_iload X dX2_make_80 5 rfl ?_
        refine gr_aload_n X dX2_make_82 1 rfl rfl ?_
        refine gf2_12 X (gk_X2o hk) wf_RX2_49 dX2_make_83 ?_
        refine gr_iconst (-1) X dX2_make_86 (by decide) ?_
        refine gr_icmp_ne 96 X dX2_make_87 (by decide) (fun h10 => ?_) (fun h10 => ?_)
        · rw [if_pos h10] at hf
          refine gr_iload_n X dX2_make_90 4 rfl rfl ?_
          refine gr_iconst 1 X dX2_make_91 (by decide) ?_
          refine gr_iadd X dX2_make_92 ?_
          refine gr_goto 100 X dX2_make_93 (by decide) ?_
          refine gr_sub (lv' := [(0, .ref (gx_ad x k)), (1, .ref (gx_ad x k0)), (2, .ref (gx_ad x k1)), (4, .int x4), (5, .int v3)]) [1, 2, 3, 5, 0] rfl ?_
          exact b2_make_100 X hc hE hk hk0 hk1 ih _ _ _ _ _ hf
        · rw [if_neg h10] at hf
          refine gr_aload_n X dX2_make_96 1 rfl rfl ?_
          refine gf2_13 X (gk_X2o hk) wf_RX2_52 dX2_make_97 ?_
          refine gr_sub (lv' := [(0, .ref (gx_ad x k)), (1, .ref (gx_ad x k0)), (2, .ref (gx_ad x k1)), (4, .int x4), (5, .int v3)]) [1, 2, 3, 5, 0] rfl ?_
          exact b2_make_100 X hc hE hk hk0 hk1 ih _ _ _ _ _ hf

def f2_make (k : Nat) (k0 : Nat) (k1 : Nat) (M0 : gz_M) : Option (gz_M) := gz_lt (gz_w M0 k 0 0) fun M1 => gz_lt (gz_w M1 k 1 1) fun M2 => gz_lt (gz_w M2 k 10 1) fun M3 => gz_lt (gz_w M3 k 11 0) fun M4 => f2_make_25 k k0 k1 gz_FU 0 0 M4
set_option maxRecDepth 100000 in
theorem c2_make {pf : Nat → Bool} {l : Launch} {M0 M' : gz_M} {k : Nat} {k0 : Nat} {k1 : Nat} (hk : gz_IsX2 pf k) (hk0 : gz_IsX7 pf k0) (hk1 : gz_IsX5 pf k1) (hf : f2_make k k0 k1 M0 = some M') : gz_CV l gz_cfC yX2_make cX2_make 6 4 (fun ad => [.ref (ad k), .ref (ad k0), .ref (ad k1)]) pf M0 M' := by
  refine gz_ofV (by decide +kernel) (fun _ => Nat.le_of_ble_eq_true rfl) (fun x X hc hE => ?_)
  show gz_At x 0 [(0, .ref (gx_ad x k)), (1, .ref (gx_ad x k0)), (2, .ref (gx_ad x k1))] [] M0
  unfold f2_make at hf
  refine gr_aload_n X dX2_make_0 0 rfl rfl ?_
  refine gr_iconst 0 X dX2_make_1 (by decide) ?_
  obtain ⟨M1, eM1, hf⟩ := gz_lte hf
  refine gp2_0 X (gk_X2o hk) wf_RX2_9 eM1 dX2_make_2 ?_
  refine gr_aload_n X dX2_make_5 0 rfl rfl ?_
  refine gr_iconst 1 X dX2_make_6 (by decide) ?_
  obtain ⟨M2, eM2, hf⟩ := gz_lte hf
  refine gp2_1 X (gk_X2o hk) wf_RX2_15 eM2 dX2_make_7 ?_
  refine gr_aload_n X dX2_make_10 0 rfl rfl ?_
  refine gr_iconst 1 X dX2_make_11 (by decide) ?_
  obtain ⟨M3, eM3, hf⟩ := gz_lte hf
  refine gp2_10 X (gk_X2o hk) wf_RX2_43 eM3 dX2_make_12 ?_
  refine gr_aload_n X dX2_make_15 0 rfl rfl ?_
  refine gr_iconst 0 X dX2_make_16 (by decide) ?_
  obtain ⟨M4, eM4, hf⟩ := gz_lte hf
  refine gp2_11 X (gk_X2o hk) wf_RX2_46 eM4 dX2_make_17 ?_
  refine gr_iconst 0 X dX2_make_20 (by decide) ?_
  refine gr_istore_n [(3, .int 0), (0, .ref (gx_ad x k)), (1, .ref (gx_ad x k0)), (2, .ref (gx_ad x k1))] X dX2_make_21 rfl rfl (by decide) rfl ?_
  refine gr_iconst 0 X dX2_make_22 (by decide) ?_
  refine gr_istore [(4, .int 0), (3, .int 0), (0, .ref (gx_ad x k)), (1, .ref (gx_ad x k0)), (2, .ref (gx_ad x k1))] X dX2_make_23 rfl (by decide) rfl ?_
  refine gr_sub (lv' := [(0, .ref (gx_ad x k)), (1, .ref (gx_ad x k0)), (2, .ref (gx_ad x k1)), (3, .int 0), (4, .int 0)]) [2, 3, 4, 1, 0] rfl ?_
  exact b2_make_25 X hc hE hk hk0 hk1 _ _ _ _ hf

def f2_reach (k : Nat) (a0 : Int32) (M0 : gz_M) : Option (Int32 × gz_M) := if a0 < 0 then (some (0, M0)) else (if a0 < (M0.1 k 0) then (gz_ck (gz_inb a0 24) <| if (M0.1 (k + 5) a0.toNatClampNeg) = (-1) then (gz_ck (gz_inb a0 24) <| some ((M0.1 (k + 4) a0.toNatClampNeg) + 1, M0)) else (gz_ck (gz_inb a0 24) <| some (M0.1 (k + 4) a0.toNatClampNeg, M0))) else (some (0, M0)))
set_option maxRecDepth 100000 in
theorem c2_reach {pf : Nat → Bool} {l : Launch} {r : Int32} {M0 M' : gz_M} {k : Nat} {a0 : Int32} (hk : gz_IsX2 pf k) (hf : f2_reach k a0 M0 = some (r, M')) : gz_CI l gz_cfC yX2_reach cX2_reach 2 1 .int (fun ad => [.ref (ad k), .int a0]) pf M0 r M' := by
  refine gz_ofI (by decide +kernel) (fun _ => Nat.le_of_ble_eq_true rfl) (fun x X hc hE => ?_)
  show gz_At x 0 [(0, .ref (gx_ad x k)), (1, .int a0)] [] M0
  unfold f2_reach at hf
  refine gr_iload_n X dX2_reach_0 1 rfl rfl ?_
  refine gr_if_lt 12 X dX2_reach_1 (by decide) (fun h1 => ?_) (fun h1 => ?_)
  · rw [if_pos h1] at hf
    refine gr_iconst 0 X dX2_reach_12 (by decide) ?_
    exact gz_EIu hE hf rfl dX2_reach_13
  · rw [if_neg h1] at hf
    refine gr_iload_n X dX2_reach_4 1 rfl rfl ?_
    refine gr_aload_n X dX2_reach_5 0 rfl rfl ?_
    refine gf2_0 X (gk_X2o hk) wf_RX2_9 dX2_reach_6 ?_
    refine gr_icmp_lt 14 X dX2_reach_9 (by decide) (fun h2 => ?_) (fun h2 => ?_)
    · rw [if_pos h2] at hf
      refine gr_aload_n X dX2_reach_14 0 rfl rfl ?_
      refine gf2_6 X (gk_X2o hk) wf_RX2_31 dX2_reach_15 ?_
      refine gr_iload_n X dX2_reach_18 1 rfl rfl ?_
      obtain ⟨h3, hf⟩ := gz_cke hf
      refine gr_iaload X (gk_X25 hk) (gz_inp h3) dX2_reach_19 ?_
      refine gr_iconst (-1) X dX2_reach_20 (by decide) ?_
      refine gr_icmp_ne 35 X dX2_reach_21 (by decide) (fun h4 => ?_) (fun h4 => ?_)
      · rw [if_pos h4] at hf
        refine gr_aload_n X dX2_reach_24 0 rfl rfl ?_
        refine gf2_5 X (gk_X2o hk) wf_RX2_28 dX2_reach_25 ?_
        refine gr_iload_n X dX2_reach_28 1 rfl rfl ?_
        obtain ⟨h5, hf⟩ := gz_cke hf
        refine gr_iaload X (gk_X24 hk) (gz_inp h5) dX2_reach_29 ?_
        refine gr_iconst 1 X dX2_reach_30 (by decide) ?_
        refine gr_iadd X dX2_reach_31 ?_
        refine gr_goto 41 X dX2_reach_32 (by decide) ?_
        exact gz_EIu hE hf rfl dX2_reach_41
      · rw [if_neg h4] at hf
        refine gr_aload_n X dX2_reach_35 0 rfl rfl ?_
        refine gf2_5 X (gk_X2o hk) wf_RX2_28 dX2_reach_36 ?_
        refine gr_iload_n X dX2_reach_39 1 rfl rfl ?_
        obtain ⟨h6, hf⟩ := gz_cke hf
        refine gr_iaload X (gk_X24 hk) (gz_inp h6) dX2_reach_40 ?_
        exact gz_EIu hE hf rfl dX2_reach_41
    · rw [if_neg h2] at hf
      refine gr_iconst 0 X dX2_reach_12 (by decide) ?_
      exact gz_EIu hE hf rfl dX2_reach_13

def f2_aheadOf_4 (k : Nat) : Nat → Int32 → Int32 → Int32 → gz_M → Option (Int32 × gz_M)
  | 0, _, _, _, _ => none
  | n + 1, x1, x2, x3, M0 => if (M0.1 k 0) ≤ x3 then (some (x2, M0)) else (if x3 = x2 then (gz_bd2 (f2_reach k x3 M0) fun v3 M4 => if x1 < v3 then (gz_lt (x2 + 0) fun v7 => gz_lt (x3 + 1) fun v8 => f2_aheadOf_4 k n x1 v7 v8 M4) else (gz_lt (x2 + 1) fun v9 => gz_lt (x3 + 1) fun v10 => f2_aheadOf_4 k n x1 v9 v10 M4)) else (some (x2, M0)))
theorem b2_aheadOf_4 {x : gz_X} {pf : Nat → Bool} {l : Launch} {r : Int32} {M' : gz_M} (X : gz_Ok x cX2_aheadOf RX2 4 2 gz_cfC pf l) (hc : gx_cells x ≤ (gx_R x).cells ∧ gx_slots x ≤ (gx_R x).slots) (hE : gz_EI x cX2_aheadOf .int r M') {k : Nat} (hk : gz_IsX2 pf k) : ∀ (n : Nat) (x1 : Int32) (x2 : Int32) (x3 : Int32) (M0 : gz_M), f2_aheadOf_4 k n x1 x2 x3 M0 = some (r, M') → gz_At x 4 [(0, .ref (gx_ad x k)), (1, .int x1), (2, .int x2), (3, .int x3)] [] M0 := by
  intro n
  induction n with
  | zero =>
    intro x1 x2 x3 M0  hf
    rw [f2_aheadOf_4] at hf
    cases hf
  | succ n ih =>
    intro x1 x2 x3 M0  hf
    rw [f2_aheadOf_4] at hf
    refine gr_iload_n X dX2_aheadOf_4 3 rfl rfl ?_
    refine gr_aload_n X dX2_aheadOf_5 0 rfl rfl ?_
    refine gf2_0 X (gk_X2o hk) wf_RX2_9 dX2_aheadOf_6 ?_
    refine gr_icmp_ge 40 X dX2_aheadOf_9 (by decide) (fun h1 => ?_) (fun h1 => ?_)
    · rw [if_pos h1] at hf
      refine gr_iload_n X dX2_aheadOf_40 2 rfl rfl ?_
      exact gz_EIu hE hf rfl dX2_aheadOf_41
    · rw [if_neg h1] at hf
      refine gr_iload_n X dX2_aheadOf_12 3 rfl rfl ?_
      refine gr_iload_n X dX2_aheadOf_13 2 rfl rfl ?_
      refine gr_icmp_ne 40 X dX2_aheadOf_14 (by decide) (fun h2 => ?_) (fun h2 => ?_)
      · rw [if_pos h2] at hf
        refine gr_iload_n X dX2_aheadOf_17 2 rfl rfl ?_
        refine gr_aload_n X dX2_aheadOf_18 0 rfl rfl ?_
        refine gr_iload_n X dX2_aheadOf_19 3 rfl rfl ?_
        obtain ⟨v3, M4, q5, hf⟩ := gz_bd2e hf
        refine gr_callI (asF := fun ad => [.ref (ad k), .int x3]) [.int x3] X (c2_reach hk q5) rfl wm_RX2_110 rfl (X.kd (gk_X2o hk)).1 ((X.kd (gk_X2o hk)).2 _ _ _ _) rfl (by decide) (by decide) rfl (Nat.le_of_ble_eq_true rfl) hc dX2_aheadOf_20 ?_
        refine gr_iload_n X dX2_aheadOf_23 1 rfl rfl ?_
        refine gr_icmp_gt 31 X dX2_aheadOf_24 (by decide) (fun h6 => ?_) (fun h6 => ?_)
        · rw [if_pos h6] at hf
          refine gr_iconst 0 X dX2_aheadOf_31 (by decide) ?_
          refine gr_iadd X dX2_aheadOf_32 ?_
          obtain ⟨v7, ev7, hf⟩ := gz_lte hf
          refine gr_istore_n [(2, .int v7), (0, .ref (gx_ad x k)), (1, .int x1), (3, .int x3)] X dX2_aheadOf_33 ev7 rfl (by decide) rfl ?_
          obtain ⟨v8, ev8, hf⟩ := gz_lte hf
          refine gr_iinc 1 [(3, .int v8), (2, .int v7), (0, .ref (gx_ad x k)), (1, .int x1)] X dX2_aheadOf_34 3 rfl (by decide) ev8 (by decide) rfl ?_
          refine gr_goto 4 X dX2_aheadOf_37 (by decide) ?_
          refine gr_sub (lv' := [(0, .ref (gx_ad x k)), (1, .int x1), (2, .int v7), (3, .int v8)]) [2, 3, 1, 0] rfl ?_
          exact ih _ _ _ _ hf
        · rw [if_neg h6] at hf
          refine gr_iconst 1 X dX2_aheadOf_27 (by decide) ?_
          refine gr_goto 32 X dX2_aheadOf_28 (by decide) ?_
          refine gr_iadd X dX2_aheadOf_32 ?_
          obtain ⟨v9, ev9, hf⟩ := gz_lte hf
          refine gr_istore_n [(2, .int v9), (0, .ref (gx_ad x k)), (1, .int x1), (3, .int x3)] X dX2_aheadOf_33 ev9 rfl (by decide) rfl ?_
          obtain ⟨v10, ev10, hf⟩ := gz_lte hf
          refine gr_iinc 1 [(3, .int v10), (2, .int v9), (0, .ref (gx_ad x k)), (1, .int x1)] X dX2_aheadOf_34 3 rfl (by decide) ev10 (by decide) rfl ?_
          refine gr_goto 4 X dX2_aheadOf_37 (by decide) ?_
          refine gr_sub (lv' := [(0, .ref (gx_ad x k)), (1, .int x1), (2, .int v9), (3, .int v10)]) [2, 3, 1, 0] rfl ?_
          exact ih _ _ _ _ hf
      · rw [if_neg h2] at hf
        refine gr_iload_n X dX2_aheadOf_40 2 rfl rfl ?_
        exact gz_EIu hE hf rfl dX2_aheadOf_41

def f2_aheadOf (k : Nat) (a0 : Int32) (M0 : gz_M) : Option (Int32 × gz_M) := f2_aheadOf_4 k gz_FU a0 0 0 M0
set_option maxRecDepth 100000 in
theorem c2_aheadOf {pf : Nat → Bool} {l : Launch} {r : Int32} {M0 M' : gz_M} {k : Nat} {a0 : Int32} (hk : gz_IsX2 pf k) (hf : f2_aheadOf k a0 M0 = some (r, M')) : gz_CI l gz_cfC yX2_aheadOf cX2_aheadOf 4 2 .int (fun ad => [.ref (ad k), .int a0]) pf M0 r M' := by
  refine gz_ofI (by decide +kernel) (fun _ => Nat.le_of_ble_eq_true rfl) (fun x X hc hE => ?_)
  show gz_At x 0 [(0, .ref (gx_ad x k)), (1, .int a0)] [] M0
  unfold f2_aheadOf at hf
  refine gr_iconst 0 X dX2_aheadOf_0 (by decide) ?_
  refine gr_istore_n [(2, .int 0), (0, .ref (gx_ad x k)), (1, .int a0)] X dX2_aheadOf_1 rfl rfl (by decide) rfl ?_
  refine gr_iconst 0 X dX2_aheadOf_2 (by decide) ?_
  refine gr_istore_n [(3, .int 0), (2, .int 0), (0, .ref (gx_ad x k)), (1, .int a0)] X dX2_aheadOf_3 rfl rfl (by decide) rfl ?_
  refine gr_sub (lv' := [(0, .ref (gx_ad x k)), (1, .int a0), (2, .int 0), (3, .int 0)]) [2, 3, 1, 0] rfl ?_
  exact b2_aheadOf_4 X hc hE hk _ _ _ _ _ hf

def f2_holder_2 (k : Nat) : Nat → Int32 → Int32 → gz_M → Option (Int32 × gz_M)
  | 0, _, _, _ => none
  | n + 1, x1, x2, M0 => if (M0.1 k 0) ≤ x2 then (some ((-1), M0)) else (gz_ck (gz_inb x2 24) <| if x1 < (M0.1 (k + 2) x2.toNatClampNeg) then (gz_lt (x2 + 1) fun v4 => f2_holder_2 k n x1 v4 M0) else (gz_ck (gz_inb x2 24) <| if (M0.1 (k + 3) x2.toNatClampNeg) ≤ x1 then (gz_lt (x2 + 1) fun v7 => f2_holder_2 k n x1 v7 M0) else (some (x2, M0))))
theorem b2_holder_2 {x : gz_X} {pf : Nat → Bool} {l : Launch} {r : Int32} {M' : gz_M} (X : gz_Ok x cX2_holder RX2 3 1 gz_cfC pf l) (hc : gx_cells x ≤ (gx_R x).cells ∧ gx_slots x ≤ (gx_R x).slots) (hE : gz_EI x cX2_holder .int r M') {k : Nat} (hk : gz_IsX2 pf k) : ∀ (n : Nat) (x1 : Int32) (x2 : Int32) (M0 : gz_M), f2_holder_2 k n x1 x2 M0 = some (r, M') → gz_At x 2 [(0, .ref (gx_ad x k)), (1, .int x1), (2, .int x2)] [] M0 := by
  intro n
  induction n with
  | zero =>
    intro x1 x2 M0  hf
    rw [f2_holder_2] at hf
    cases hf
  | succ n ih =>
    intro x1 x2 M0  hf
    rw [f2_holder_2] at hf
    refine gr_iload_n X dX2_holder_2 2 rfl rfl ?_
    refine gr_aload_n X dX2_holder_3 0 rfl rfl ?_
    refine gf2_0 X (gk_X2o hk) wf_RX2_9 dX2_holder_4 ?_
    refine gr_icmp_ge 38 X dX2_holder_7 (by decide) (fun h1 => ?_) (fun h1 => ?_)
    · rw [if_pos h1] at hf
      refine gr_iconst (-1) X dX2_holder_38 (by decide) ?_
      exact gz_EIu hE hf rfl dX2_holder_39
    · rw [if_neg h1] at hf
      refine gr_aload_n X dX2_holder_10 0 rfl rfl ?_
      refine gf2_3 X (gk_X2o hk) wf_RX2_22 dX2_holder_11 ?_
      refine gr_iload_n X dX2_holder_14 2 rfl rfl ?_
      obtain ⟨h2, hf⟩ := gz_cke hf
      refine gr_iaload X (gk_X22 hk) (gz_inp h2) dX2_holder_15 ?_
      refine gr_iload_n X dX2_holder_16 1 rfl rfl ?_
      refine gr_icmp_gt 32 X dX2_holder_17 (by decide) (fun h3 => ?_) (fun h3 => ?_)
      · rw [if_pos h3] at hf
        obtain ⟨v4, ev4, hf⟩ := gz_lte hf
        refine gr_iinc 1 [(2, .int v4), (0, .ref (gx_ad x k)), (1, .int x1)] X dX2_holder_32 2 rfl (by decide) ev4 (by decide) rfl ?_
        refine gr_goto 2 X dX2_holder_35 (by decide) ?_
        refine gr_sub (lv' := [(0, .ref (gx_ad x k)), (1, .int x1), (2, .int v4)]) [1, 2, 0] rfl ?_
        exact ih _ _ _ hf
      · rw [if_neg h3] at hf
        refine gr_iload_n X dX2_holder_20 1 rfl rfl ?_
        refine gr_aload_n X dX2_holder_21 0 rfl rfl ?_
        refine gf2_4 X (gk_X2o hk) wf_RX2_25 dX2_holder_22 ?_
        refine gr_iload_n X dX2_holder_25 2 rfl rfl ?_
        obtain ⟨h5, hf⟩ := gz_cke hf
        refine gr_iaload X (gk_X23 hk) (gz_inp h5) dX2_holder_26 ?_
        refine gr_icmp_ge 32 X dX2_holder_27 (by decide) (fun h6 => ?_) (fun h6 => ?_)
        · rw [if_pos h6] at hf
          obtain ⟨v7, ev7, hf⟩ := gz_lte hf
          refine gr_iinc 1 [(2, .int v7), (0, .ref (gx_ad x k)), (1, .int x1)] X dX2_holder_32 2 rfl (by decide) ev7 (by decide) rfl ?_
          refine gr_goto 2 X dX2_holder_35 (by decide) ?_
          refine gr_sub (lv' := [(0, .ref (gx_ad x k)), (1, .int x1), (2, .int v7)]) [1, 2, 0] rfl ?_
          exact ih _ _ _ hf
        · rw [if_neg h6] at hf
          refine gr_iload_n X dX2_holder_30 2 rfl rfl ?_
          exact gz_EIu hE hf rfl dX2_holder_31

def f2_holder (k : Nat) (a0 : Int32) (M0 : gz_M) : Option (Int32 × gz_M) := f2_holder_2 k gz_FU a0 0 M0
set_option maxRecDepth 100000 in
theorem c2_holder {pf : Nat → Bool} {l : Launch} {r : Int32} {M0 M' : gz_M} {k : Nat} {a0 : Int32} (hk : gz_IsX2 pf k) (hf : f2_holder k a0 M0 = some (r, M')) : gz_CI l gz_cfC yX2_holder cX2_holder 3 1 .int (fun ad => [.ref (ad k), .int a0]) pf M0 r M' := by
  refine gz_ofI (by decide +kernel) (fun _ => Nat.le_of_ble_eq_true rfl) (fun x X hc hE => ?_)
  show gz_At x 0 [(0, .ref (gx_ad x k)), (1, .int a0)] [] M0
  unfold f2_holder at hf
  refine gr_iconst 0 X dX2_holder_0 (by decide) ?_
  refine gr_istore_n [(2, .int 0), (0, .ref (gx_ad x k)), (1, .int a0)] X dX2_holder_1 rfl rfl (by decide) rfl ?_
  refine gr_sub (lv' := [(0, .ref (gx_ad x k)), (1, .int a0), (2, .int 0)]) [1, 2, 0] rfl ?_
  exact b2_holder_2 X hc hE hk _ _ _ _ hf

def f2_endingAt_2 (k : Nat) : Nat → Int32 → Int32 → gz_M → Option (Int32 × gz_M)
  | 0, _, _, _ => none
  | n + 1, x1, x2, M0 => if (M0.1 k 0) ≤ x2 then (some ((-1), M0)) else (gz_ck (gz_inb x2 24) <| if (M0.1 (k + 3) x2.toNatClampNeg) = x1 then (some (x2, M0)) else (gz_lt (x2 + 1) fun v4 => f2_endingAt_2 k n x1 v4 M0))
theorem b2_endingAt_2 {x : gz_X} {pf : Nat → Bool} {l : Launch} {r : Int32} {M' : gz_M} (X : gz_Ok x cX2_endingAt RX2 3 1 gz_cfC pf l) (hc : gx_cells x ≤ (gx_R x).cells ∧ gx_slots x ≤ (gx_R x).slots) (hE : gz_EI x cX2_endingAt .int r M') {k : Nat} (hk : gz_IsX2 pf k) : ∀ (n : Nat) (x1 : Int32) (x2 : Int32) (M0 : gz_M), f2_endingAt_2 k n x1 x2 M0 = some (r, M') → gz_At x 2 [(0, .ref (gx_ad x k)), (1, .int x1), (2, .int x2)] [] M0 := by
  intro n
  induction n with
  | zero =>
    intro x1 x2 M0  hf
    rw [f2_endingAt_2] at hf
    cases hf
  | succ n ih =>
    intro x1 x2 M0  hf
    rw [f2_endingAt_2] at hf
    refine gr_iload_n X dX2_endingAt_2 2 rfl rfl ?_
    refine gr_aload_n X dX2_endingAt_3 0 rfl rfl ?_
    refine gf2_0 X (gk_X2o hk) wf_RX2_9 dX2_endingAt_4 ?_
    refine gr_icmp_ge 28 X dX2_endingAt_7 (by decide) (fun h1 => ?_) (fun h1 => ?_)
    · rw [if_pos h1] at hf
      refine gr_iconst (-1) X dX2_endingAt_28 (by decide) ?_
      exact gz_EIu hE hf rfl dX2_endingAt_29
    · rw [if_neg h1] at hf
      refine gr_aload_n X dX2_endingAt_10 0 rfl rfl ?_
      refine gf2_4 X (gk_X2o hk) wf_RX2_25 dX2_endingAt_11 ?_
      refine gr_iload_n X dX2_endingAt_14 2 rfl rfl ?_
      obtain ⟨h2, hf⟩ := gz_cke hf
      refine gr_iaload X (gk_X23 hk) (gz_inp h2) dX2_endingAt_15 ?_
      refine gr_iload_n X dX2_endingAt_16 1 rfl rfl ?_
      refine gr_icmp_ne 22 X dX2_endingAt_17 (by decide) (fun h3 => ?_) (fun h3 => ?_)
      · rw [if_pos h3] at hf
        refine gr_iload_n X dX2_endingAt_20 2 rfl rfl ?_
        exact gz_EIu hE hf rfl dX2_endingAt_21
      · rw [if_neg h3] at hf
        obtain ⟨v4, ev4, hf⟩ := gz_lte hf
        refine gr_iinc 1 [(2, .int v4), (0, .ref (gx_ad x k)), (1, .int x1)] X dX2_endingAt_22 2 rfl (by decide) ev4 (by decide) rfl ?_
        refine gr_goto 2 X dX2_endingAt_25 (by decide) ?_
        refine gr_sub (lv' := [(0, .ref (gx_ad x k)), (1, .int x1), (2, .int v4)]) [1, 2, 0] rfl ?_
        exact ih _ _ _ hf

def f2_endingAt (k : Nat) (a0 : Int32) (M0 : gz_M) : Option (Int32 × gz_M) := f2_endingAt_2 k gz_FU a0 0 M0
set_option maxRecDepth 100000 in
theorem c2_endingAt {pf : Nat → Bool} {l : Launch} {r : Int32} {M0 M' : gz_M} {k : Nat} {a0 : Int32} (hk : gz_IsX2 pf k) (hf : f2_endingAt k a0 M0 = some (r, M')) : gz_CI l gz_cfC yX2_endingAt cX2_endingAt 3 1 .int (fun ad => [.ref (ad k), .int a0]) pf M0 r M' := by
  refine gz_ofI (by decide +kernel) (fun _ => Nat.le_of_ble_eq_true rfl) (fun x X hc hE => ?_)
  show gz_At x 0 [(0, .ref (gx_ad x k)), (1, .int a0)] [] M0
  unfold f2_endingAt at hf
  refine gr_iconst 0 X dX2_endingAt_0 (by decide) ?_
  refine gr_istore_n [(2, .int 0), (0, .ref (gx_ad x k)), (1, .int a0)] X dX2_endingAt_1 rfl rfl (by decide) rfl ?_
  refine gr_sub (lv' := [(0, .ref (gx_ad x k)), (1, .int a0), (2, .int 0)]) [1, 2, 0] rfl ?_
  exact b2_endingAt_2 X hc hE hk _ _ _ _ hf

def f2_hasModesOf (k : Nat) (k1 : Nat) (a0 : Int32) (a2 : Int32) (M0 : gz_M) : Option (Int32 × gz_M) := if a0 < 0 then (some (0, M0)) else (if (M0.1 k 0) ≤ a0 then (some (0, M0)) else (if a2 < 0 then (some (0, M0)) else (if a2 < (M0.1 k1 0) then (gz_ck (gz_inb a0 24) <| gz_ck (gz_inb a2 24) <| if (M0.1 (k + 7) a0.toNatClampNeg) = (M0.1 (k1 + 7) a2.toNatClampNeg) then (gz_ck (gz_inb a0 24) <| gz_ck (gz_inb a2 24) <| if (M0.1 (k + 8) a0.toNatClampNeg) = (M0.1 (k1 + 8) a2.toNatClampNeg) then (some (1, M0)) else (some (0, M0))) else (some (0, M0))) else (some (0, M0)))))
set_option maxRecDepth 100000 in
theorem c2_hasModesOf {pf : Nat → Bool} {l : Launch} {r : Int32} {M0 M' : gz_M} {k : Nat} {k1 : Nat} {a0 : Int32} {a2 : Int32} (hk : gz_IsX2 pf k) (hk1 : gz_IsX2 pf k1) (hf : f2_hasModesOf k k1 a0 a2 M0 = some (r, M')) : gz_CI l gz_cfC yX2_hasModesOf cX2_hasModesOf 4 1 .boolean (fun ad => [.ref (ad k), .int a0, .ref (ad k1), .int a2]) pf M0 r M' := by
  refine gz_ofI (by decide +kernel) (fun _ => Nat.le_of_ble_eq_true rfl) (fun x X hc hE => ?_)
  show gz_At x 0 [(0, .ref (gx_ad x k)), (1, .int a0), (2, .ref (gx_ad x k1)), (3, .int a2)] [] M0
  unfold f2_hasModesOf at hf
  refine gr_iload_n X dX2_hasModesOf_0 1 rfl rfl ?_
  refine gr_if_lt 24 X dX2_hasModesOf_1 (by decide) (fun h1 => ?_) (fun h1 => ?_)
  · rw [if_pos h1] at hf
    refine gr_iconst 0 X dX2_hasModesOf_24 (by decide) ?_
    exact gz_EIu hE hf rfl dX2_hasModesOf_25
  · rw [if_neg h1] at hf
    refine gr_iload_n X dX2_hasModesOf_4 1 rfl rfl ?_
    refine gr_aload_n X dX2_hasModesOf_5 0 rfl rfl ?_
    refine gf2_0 X (gk_X2o hk) wf_RX2_9 dX2_hasModesOf_6 ?_
    refine gr_icmp_ge 24 X dX2_hasModesOf_9 (by decide) (fun h2 => ?_) (fun h2 => ?_)
    · rw [if_pos h2] at hf
      refine gr_iconst 0 X dX2_hasModesOf_24 (by decide) ?_
      exact gz_EIu hE hf rfl dX2_hasModesOf_25
    · rw [if_neg h2] at hf
      refine gr_iload_n X dX2_hasModesOf_12 3 rfl rfl ?_
      refine gr_if_lt 24 X dX2_hasModesOf_13 (by decide) (fun h3 => ?_) (fun h3 => ?_)
      · rw [if_pos h3] at hf
        refine gr_iconst 0 X dX2_hasModesOf_24 (by decide) ?_
        exact gz_EIu hE hf rfl dX2_hasModesOf_25
      · rw [if_neg h3] at hf
        refine gr_iload_n X dX2_hasModesOf_16 3 rfl rfl ?_
        refine gr_aload_n X dX2_hasModesOf_17 2 rfl rfl ?_
        refine gf2_0 X (gk_X2o hk1) wf_RX2_9 dX2_hasModesOf_18 ?_
        refine gr_icmp_lt 26 X dX2_hasModesOf_21 (by decide) (fun h4 => ?_) (fun h4 => ?_)
        · rw [if_pos h4] at hf
          refine gr_aload_n X dX2_hasModesOf_26 0 rfl rfl ?_
          refine gf2_8 X (gk_X2o hk) wf_RX2_37 dX2_hasModesOf_27 ?_
          refine gr_iload_n X dX2_hasModesOf_30 1 rfl rfl ?_
          obtain ⟨h5, hf⟩ := gz_cke hf
          refine gr_iaload X (gk_X27 hk) (gz_inp h5) dX2_hasModesOf_31 ?_
          refine gr_aload_n X dX2_hasModesOf_32 2 rfl rfl ?_
          refine gf2_8 X (gk_X2o hk1) wf_RX2_37 dX2_hasModesOf_33 ?_
          refine gr_iload_n X dX2_hasModesOf_36 3 rfl rfl ?_
          obtain ⟨h6, hf⟩ := gz_cke hf
          refine gr_iaload X (gk_X27 hk1) (gz_inp h6) dX2_hasModesOf_37 ?_
          refine gr_icmp_ne 60 X dX2_hasModesOf_38 (by decide) (fun h7 => ?_) (fun h7 => ?_)
          · rw [if_pos h7] at hf
            refine gr_aload_n X dX2_hasModesOf_41 0 rfl rfl ?_
            refine gf2_9 X (gk_X2o hk) wf_RX2_40 dX2_hasModesOf_42 ?_
            refine gr_iload_n X dX2_hasModesOf_45 1 rfl rfl ?_
            obtain ⟨h8, hf⟩ := gz_cke hf
            refine gr_iaload X (gk_X28 hk) (gz_inp h8) dX2_hasModesOf_46 ?_
            refine gr_aload_n X dX2_hasModesOf_47 2 rfl rfl ?_
            refine gf2_9 X (gk_X2o hk1) wf_RX2_40 dX2_hasModesOf_48 ?_
            refine gr_iload_n X dX2_hasModesOf_51 3 rfl rfl ?_
            obtain ⟨h9, hf⟩ := gz_cke hf
            refine gr_iaload X (gk_X28 hk1) (gz_inp h9) dX2_hasModesOf_52 ?_
            refine gr_icmp_ne 60 X dX2_hasModesOf_53 (by decide) (fun h10 => ?_) (fun h10 => ?_)
            · rw [if_pos h10] at hf
              refine gr_iconst 1 X dX2_hasModesOf_56 (by decide) ?_
              refine gr_goto 61 X dX2_hasModesOf_57 (by decide) ?_
              exact gz_EIu hE hf rfl dX2_hasModesOf_61
            · rw [if_neg h10] at hf
              refine gr_iconst 0 X dX2_hasModesOf_60 (by decide) ?_
              exact gz_EIu hE hf rfl dX2_hasModesOf_61
          · rw [if_neg h7] at hf
            refine gr_iconst 0 X dX2_hasModesOf_60 (by decide) ?_
            exact gz_EIu hE hf rfl dX2_hasModesOf_61
        · rw [if_neg h4] at hf
          refine gr_iconst 0 X dX2_hasModesOf_24 (by decide) ?_
          exact gz_EIu hE hf rfl dX2_hasModesOf_25

def f2_alike_4 (k : Nat) (k0 : Nat) : Nat → Int32 → Int32 → gz_M → Option (Int32 × gz_M)
  | 0, _, _, _ => none
  | n + 1, x2, x3, M0 => if (M0.1 k 0) ≤ x3 then (some (x2, M0)) else (if (M0.1 k0 0) ≤ x3 then (some (x2, M0)) else (if x3 = x2 then (gz_ck (gz_inb x3 24) <| gz_ck (gz_inb x3 24) <| if (M0.1 (k + 1) x3.toNatClampNeg) = (M0.1 (k0 + 1) x3.toNatClampNeg) then (gz_ck (gz_inb x3 24) <| gz_ck (gz_inb x3 24) <| if (M0.1 (k + 3) x3.toNatClampNeg) = (M0.1 (k0 + 3) x3.toNatClampNeg) then (gz_lt (x2 + 1) fun v10 => gz_lt (x3 + 1) fun v11 => f2_alike_4 k k0 n v10 v11 M0) else (gz_lt (x2 + 0) fun v12 => gz_lt (x3 + 1) fun v13 => f2_alike_4 k k0 n v12 v13 M0)) else (gz_lt (x2 + 0) fun v14 => gz_lt (x3 + 1) fun v15 => f2_alike_4 k k0 n v14 v15 M0)) else (some (x2, M0))))
theorem b2_alike_4 {x : gz_X} {pf : Nat → Bool} {l : Launch} {r : Int32} {M' : gz_M} (X : gz_Ok x cX2_alike RX2 4 1 gz_cfC pf l) (hc : gx_cells x ≤ (gx_R x).cells ∧ gx_slots x ≤ (gx_R x).slots) (hE : gz_EI x cX2_alike .int r M') {k : Nat} {k0 : Nat} (hk : gz_IsX2 pf k) (hk0 : gz_IsX2 pf k0) : ∀ (n : Nat) (x2 : Int32) (x3 : Int32) (M0 : gz_M), f2_alike_4 k k0 n x2 x3 M0 = some (r, M') → gz_At x 4 [(0, .ref (gx_ad x k)), (1, .ref (gx_ad x k0)), (2, .int x2), (3, .int x3)] [] M0 := by
  intro n
  induction n with
  | zero =>
    intro x2 x3 M0  hf
    rw [f2_alike_4] at hf
    cases hf
  | succ n ih =>
    intro x2 x3 M0  hf
    rw [f2_alike_4] at hf
    refine gr_iload_n X dX2_alike_4 3 rfl rfl ?_
    refine gr_aload_n X dX2_alike_5 0 rfl rfl ?_
    refine gf2_0 X (gk_X2o hk) wf_RX2_9 dX2_alike_6 ?_
    refine gr_icmp_ge 69 X dX2_alike_9 (by decide) (fun h1 => ?_) (fun h1 => ?_)
    · rw [if_pos h1] at hf
      refine gr_iload_n X dX2_alike_69 2 rfl rfl ?_
      exact gz_EIu hE hf rfl dX2_alike_70
    · rw [if_neg h1] at hf
      refine gr_iload_n X dX2_alike_12 3 rfl rfl ?_
      refine gr_aload_n X dX2_alike_13 1 rfl rfl ?_
      refine gf2_0 X (gk_X2o hk0) wf_RX2_9 dX2_alike_14 ?_
      refine gr_icmp_ge 69 X dX2_alike_17 (by decide) (fun h2 => ?_) (fun h2 => ?_)
      · rw [if_pos h2] at hf
        refine gr_iload_n X dX2_alike_69 2 rfl rfl ?_
        exact gz_EIu hE hf rfl dX2_alike_70
      · rw [if_neg h2] at hf
        refine gr_iload_n X dX2_alike_20 3 rfl rfl ?_
        refine gr_iload_n X dX2_alike_21 2 rfl rfl ?_
        refine gr_icmp_ne 69 X dX2_alike_22 (by decide) (fun h3 => ?_) (fun h3 => ?_)
        · rw [if_pos h3] at hf
          refine gr_iload_n X dX2_alike_25 2 rfl rfl ?_
          refine gr_aload_n X dX2_alike_26 0 rfl rfl ?_
          refine gf2_2 X (gk_X2o hk) wf_RX2_18 dX2_alike_27 ?_
          refine gr_iload_n X dX2_alike_30 3 rfl rfl ?_
          obtain ⟨h4, hf⟩ := gz_cke hf
          refine gr_iaload X (gk_X21 hk) (gz_inp h4) dX2_alike_31 ?_
          refine gr_aload_n X dX2_alike_32 1 rfl rfl ?_
          refine gf2_2 X (gk_X2o hk0) wf_RX2_18 dX2_alike_33 ?_
          refine gr_iload_n X dX2_alike_36 3 rfl rfl ?_
          obtain ⟨h5, hf⟩ := gz_cke hf
          refine gr_iaload X (gk_X21 hk0) (gz_inp h5) dX2_alike_37 ?_
          refine gr_icmp_ne 60 X dX2_alike_38 (by decide) (fun h6 => ?_) (fun h6 => ?_)
          · rw [if_pos h6] at hf
            refine gr_aload_n X dX2_alike_41 0 rfl rfl ?_
            refine gf2_4 X (gk_X2o hk) wf_RX2_25 dX2_alike_42 ?_
            refine gr_iload_n X dX2_alike_45 3 rfl rfl ?_
            obtain ⟨h7, hf⟩ := gz_cke hf
            refine gr_iaload X (gk_X23 hk) (gz_inp h7) dX2_alike_46 ?_
            refine gr_aload_n X dX2_alike_47 1 rfl rfl ?_
            refine gf2_4 X (gk_X2o hk0) wf_RX2_25 dX2_alike_48 ?_
            refine gr_iload_n X dX2_alike_51 3 rfl rfl ?_
            obtain ⟨h8, hf⟩ := gz_cke hf
            refine gr_iaload X (gk_X23 hk0) (gz_inp h8) dX2_alike_52 ?_
            refine gr_icmp_ne 60 X dX2_alike_53 (by decide) (fun h9 => ?_) (fun h9 => ?_)
            · rw [if_pos h9] at hf
              refine gr_iconst 1 X dX2_alike_56 (by decide) ?_
              refine gr_goto 61 X dX2_alike_57 (by decide) ?_
              refine gr_iadd X dX2_alike_61 ?_
              obtain ⟨v10, ev10, hf⟩ := gz_lte hf
              refine gr_istore_n [(2, .int v10), (0, .ref (gx_ad x k)), (1, .ref (gx_ad x k0)), (3, .int x3)] X dX2_alike_62 ev10 rfl (by decide) rfl ?_
              obtain ⟨v11, ev11, hf⟩ := gz_lte hf
              refine gr_iinc 1 [(3, .int v11), (2, .int v10), (0, .ref (gx_ad x k)), (1, .ref (gx_ad x k0))] X dX2_alike_63 3 rfl (by decide) ev11 (by decide) rfl ?_
              refine gr_goto 4 X dX2_alike_66 (by decide) ?_
              refine gr_sub (lv' := [(0, .ref (gx_ad x k)), (1, .ref (gx_ad x k0)), (2, .int v10), (3, .int v11)]) [2, 3, 1, 0] rfl ?_
              exact ih _ _ _ hf
            · rw [if_neg h9] at hf
              refine gr_iconst 0 X dX2_alike_60 (by decide) ?_
              refine gr_iadd X dX2_alike_61 ?_
              obtain ⟨v12, ev12, hf⟩ := gz_lte hf
              refine gr_istore_n [(2, .int v12), (0, .ref (gx_ad x k)), (1, .ref (gx_ad x k0)), (3, .int x3)] X dX2_alike_62 ev12 rfl (by decide) rfl ?_
              obtain ⟨v13, ev13, hf⟩ := gz_lte hf
              refine gr_iinc 1 [(3, .int v13), (2, .int v12), (0, .ref (gx_ad x k)), (1, .ref (gx_ad x k0))] X dX2_alike_63 3 rfl (by decide) ev13 (by decide) rfl ?_
              refine gr_goto 4 X dX2_alike_66 (by decide) ?_
              refine gr_sub (lv' := [(0, .ref (gx_ad x k)), (1, .ref (gx_ad x k0)), (2, .int v12), (3, .int v13)]) [2, 3, 1, 0] rfl ?_
              exact ih _ _ _ hf
          · rw [if_neg h6] at hf
            refine gr_iconst 0 X dX2_alike_60 (by decide) ?_
            refine gr_iadd X dX2_alike_61 ?_
            obtain ⟨v14, ev14, hf⟩ := gz_lte hf
            refine gr_istore_n [(2, .int v14), (0, .ref (gx_ad x k)), (1, .ref (gx_ad x k0)), (3, .int x3)] X dX2_alike_62 ev14 rfl (by decide) rfl ?_
            obtain ⟨v15, ev15, hf⟩ := gz_lte hf
            refine gr_iinc 1 [(3, .int v15), (2, .int v14), (0, .ref (gx_ad x k)), (1, .ref (gx_ad x k0))] X dX2_alike_63 3 rfl (by decide) ev15 (by decide) rfl ?_
            refine gr_goto 4 X dX2_alike_66 (by decide) ?_
            refine gr_sub (lv' := [(0, .ref (gx_ad x k)), (1, .ref (gx_ad x k0)), (2, .int v14), (3, .int v15)]) [2, 3, 1, 0] rfl ?_
            exact ih _ _ _ hf
        · rw [if_neg h3] at hf
          refine gr_iload_n X dX2_alike_69 2 rfl rfl ?_
          exact gz_EIu hE hf rfl dX2_alike_70

def f2_alike (k : Nat) (k0 : Nat) (M0 : gz_M) : Option (Int32 × gz_M) := f2_alike_4 k k0 gz_FU 0 0 M0
set_option maxRecDepth 100000 in
theorem c2_alike {pf : Nat → Bool} {l : Launch} {r : Int32} {M0 M' : gz_M} {k : Nat} {k0 : Nat} (hk : gz_IsX2 pf k) (hk0 : gz_IsX2 pf k0) (hf : f2_alike k k0 M0 = some (r, M')) : gz_CI l gz_cfC yX2_alike cX2_alike 4 1 .int (fun ad => [.ref (ad k), .ref (ad k0)]) pf M0 r M' := by
  refine gz_ofI (by decide +kernel) (fun _ => Nat.le_of_ble_eq_true rfl) (fun x X hc hE => ?_)
  show gz_At x 0 [(0, .ref (gx_ad x k)), (1, .ref (gx_ad x k0))] [] M0
  unfold f2_alike at hf
  refine gr_iconst 0 X dX2_alike_0 (by decide) ?_
  refine gr_istore_n [(2, .int 0), (0, .ref (gx_ad x k)), (1, .ref (gx_ad x k0))] X dX2_alike_1 rfl rfl (by decide) rfl ?_
  refine gr_iconst 0 X dX2_alike_2 (by decide) ?_
  refine gr_istore_n [(3, .int 0), (2, .int 0), (0, .ref (gx_ad x k)), (1, .ref (gx_ad x k0))] X dX2_alike_3 rfl rfl (by decide) rfl ?_
  refine gr_sub (lv' := [(0, .ref (gx_ad x k)), (1, .ref (gx_ad x k0)), (2, .int 0), (3, .int 0)]) [2, 3, 1, 0] rfl ?_
  exact b2_alike_4 X hc hE hk hk0 _ _ _ _ hf

def f2_stuckTokens_4 (k : Nat) : Nat → Int32 → Int32 → gz_M → Option (Int32 × gz_M)
  | 0, _, _, _ => none
  | n + 1, x1, x2, M0 => if (M0.1 k 0) ≤ x2 then (some (x1, M0)) else (gz_ck (gz_inb x2 24) <| if (M0.1 (k + 1) x2.toNatClampNeg) = (-1) then (gz_lt (x1 + 1) fun v4 => gz_lt (x2 + 1) fun v5 => f2_stuckTokens_4 k n v4 v5 M0) else (gz_lt (x1 + 0) fun v6 => gz_lt (x2 + 1) fun v7 => f2_stuckTokens_4 k n v6 v7 M0))
theorem b2_stuckTokens_4 {x : gz_X} {pf : Nat → Bool} {l : Launch} {r : Int32} {M' : gz_M} (X : gz_Ok x cX2_stuckTokens RX2 3 1 gz_cfC pf l) (hc : gx_cells x ≤ (gx_R x).cells ∧ gx_slots x ≤ (gx_R x).slots) (hE : gz_EI x cX2_stuckTokens .int r M') {k : Nat} (hk : gz_IsX2 pf k) : ∀ (n : Nat) (x1 : Int32) (x2 : Int32) (M0 : gz_M), f2_stuckTokens_4 k n x1 x2 M0 = some (r, M') → gz_At x 4 [(0, .ref (gx_ad x k)), (1, .int x1), (2, .int x2)] [] M0 := by
  intro n
  induction n with
  | zero =>
    intro x1 x2 M0  hf
    rw [f2_stuckTokens_4] at hf
    cases hf
  | succ n ih =>
    intro x1 x2 M0  hf
    rw [f2_stuckTokens_4] at hf
    refine gr_iload_n X dX2_stuckTokens_4 2 rfl rfl ?_
    refine gr_aload_n X dX2_stuckTokens_5 0 rfl rfl ?_
    refine gf2_0 X (gk_X2o hk) wf_RX2_9 dX2_stuckTokens_6 ?_
    refine gr_icmp_ge 36 X dX2_stuckTokens_9 (by decide) (fun h1 => ?_) (fun h1 => ?_)
    · rw [if_pos h1] at hf
      refine gr_iload_n X dX2_stuckTokens_36 1 rfl rfl ?_
      exact gz_EIu hE hf rfl dX2_stuckTokens_37
    · rw [if_neg h1] at hf
      refine gr_iload_n X dX2_stuckTokens_12 1 rfl rfl ?_
      refine gr_aload_n X dX2_stuckTokens_13 0 rfl rfl ?_
      refine gf2_2 X (gk_X2o hk) wf_RX2_18 dX2_stuckTokens_14 ?_
      refine gr_iload_n X dX2_stuckTokens_17 2 rfl rfl ?_
      obtain ⟨h2, hf⟩ := gz_cke hf
      refine gr_iaload X (gk_X21 hk) (gz_inp h2) dX2_stuckTokens_18 ?_
      refine gr_iconst (-1) X dX2_stuckTokens_19 (by decide) ?_
      refine gr_icmp_ne 27 X dX2_stuckTokens_20 (by decide) (fun h3 => ?_) (fun h3 => ?_)
      · rw [if_pos h3] at hf
        refine gr_iconst 1 X dX2_stuckTokens_23 (by decide) ?_
        refine gr_goto 28 X dX2_stuckTokens_24 (by decide) ?_
        refine gr_iadd X dX2_stuckTokens_28 ?_
        obtain ⟨v4, ev4, hf⟩ := gz_lte hf
        refine gr_istore_n [(1, .int v4), (0, .ref (gx_ad x k)), (2, .int x2)] X dX2_stuckTokens_29 ev4 rfl (by decide) rfl ?_
        obtain ⟨v5, ev5, hf⟩ := gz_lte hf
        refine gr_iinc 1 [(2, .int v5), (1, .int v4), (0, .ref (gx_ad x k))] X dX2_stuckTokens_30 2 rfl (by decide) ev5 (by decide) rfl ?_
        refine gr_goto 4 X dX2_stuckTokens_33 (by decide) ?_
        refine gr_sub (lv' := [(0, .ref (gx_ad x k)), (1, .int v4), (2, .int v5)]) [2, 1, 0] rfl ?_
        exact ih _ _ _ hf
      · rw [if_neg h3] at hf
        refine gr_iconst 0 X dX2_stuckTokens_27 (by decide) ?_
        refine gr_iadd X dX2_stuckTokens_28 ?_
        obtain ⟨v6, ev6, hf⟩ := gz_lte hf
        refine gr_istore_n [(1, .int v6), (0, .ref (gx_ad x k)), (2, .int x2)] X dX2_stuckTokens_29 ev6 rfl (by decide) rfl ?_
        obtain ⟨v7, ev7, hf⟩ := gz_lte hf
        refine gr_iinc 1 [(2, .int v7), (1, .int v6), (0, .ref (gx_ad x k))] X dX2_stuckTokens_30 2 rfl (by decide) ev7 (by decide) rfl ?_
        refine gr_goto 4 X dX2_stuckTokens_33 (by decide) ?_
        refine gr_sub (lv' := [(0, .ref (gx_ad x k)), (1, .int v6), (2, .int v7)]) [2, 1, 0] rfl ?_
        exact ih _ _ _ hf

def f2_stuckTokens (k : Nat) (M0 : gz_M) : Option (Int32 × gz_M) := f2_stuckTokens_4 k gz_FU 0 0 M0
set_option maxRecDepth 100000 in
theorem c2_stuckTokens {pf : Nat → Bool} {l : Launch} {r : Int32} {M0 M' : gz_M} {k : Nat} (hk : gz_IsX2 pf k) (hf : f2_stuckTokens k M0 = some (r, M')) : gz_CI l gz_cfC yX2_stuckTokens cX2_stuckTokens 3 1 .int (fun ad => [.ref (ad k)]) pf M0 r M' := by
  refine gz_ofI (by decide +kernel) (fun _ => Nat.le_of_ble_eq_true rfl) (fun x X hc hE => ?_)
  show gz_At x 0 [(0, .ref (gx_ad x k))] [] M0
  unfold f2_stuckTokens at hf
  refine gr_iconst 0 X dX2_stuckTokens_0 (by decide) ?_
  refine gr_istore_n [(1, .int 0), (0, .ref (gx_ad x k))] X dX2_stuckTokens_1 rfl rfl (by decide) rfl ?_
  refine gr_iconst 0 X dX2_stuckTokens_2 (by decide) ?_
  refine gr_istore_n [(2, .int 0), (1, .int 0), (0, .ref (gx_ad x k))] X dX2_stuckTokens_3 rfl rfl (by decide) rfl ?_
  refine gr_sub (lv' := [(0, .ref (gx_ad x k)), (1, .int 0), (2, .int 0)]) [2, 1, 0] rfl ?_
  exact b2_stuckTokens_4 X hc hE hk _ _ _ _ hf

def f2_signsRead_4 (k : Nat) : Nat → Int32 → Int32 → gz_M → Option (Int32 × gz_M)
  | 0, _, _, _ => none
  | n + 1, x1, x2, M0 => if (M0.1 k 0) ≤ x2 then (some (x1, M0)) else (gz_ck (gz_inb x2 24) <| gz_ck (gz_inb x2 24) <| gz_lt (x1 + ((M0.1 (k + 4) x2.toNatClampNeg) - (M0.1 (k + 2) x2.toNatClampNeg))) fun v4 => gz_lt (x2 + 1) fun v5 => f2_signsRead_4 k n v4 v5 M0)
theorem b2_signsRead_4 {x : gz_X} {pf : Nat → Bool} {l : Launch} {r : Int32} {M' : gz_M} (X : gz_Ok x cX2_signsRead RX2 3 1 gz_cfC pf l) (hc : gx_cells x ≤ (gx_R x).cells ∧ gx_slots x ≤ (gx_R x).slots) (hE : gz_EI x cX2_signsRead .int r M') {k : Nat} (hk : gz_IsX2 pf k) : ∀ (n : Nat) (x1 : Int32) (x2 : Int32) (M0 : gz_M), f2_signsRead_4 k n x1 x2 M0 = some (r, M') → gz_At x 4 [(0, .ref (gx_ad x k)), (1, .int x1), (2, .int x2)] [] M0 := by
  intro n
  induction n with
  | zero =>
    intro x1 x2 M0  hf
    rw [f2_signsRead_4] at hf
    cases hf
  | succ n ih =>
    intro x1 x2 M0  hf
    rw [f2_signsRead_4] at hf
    refine gr_iload_n X dX2_signsRead_4 2 rfl rfl ?_
    refine gr_aload_n X dX2_signsRead_5 0 rfl rfl ?_
    refine gf2_0 X (gk_X2o hk) wf_RX2_9 dX2_signsRead_6 ?_
    refine gr_icmp_ge 34 X dX2_signsRead_9 (by decide) (fun h1 => ?_) (fun h1 => ?_)
    · rw [if_pos h1] at hf
      refine gr_iload_n X dX2_signsRead_34 1 rfl rfl ?_
      exact gz_EIu hE hf rfl dX2_signsRead_35
    · rw [if_neg h1] at hf
      refine gr_iload_n X dX2_signsRead_12 1 rfl rfl ?_
      refine gr_aload_n X dX2_signsRead_13 0 rfl rfl ?_
      refine gf2_5 X (gk_X2o hk) wf_RX2_28 dX2_signsRead_14 ?_
      refine gr_iload_n X dX2_signsRead_17 2 rfl rfl ?_
      obtain ⟨h2, hf⟩ := gz_cke hf
      refine gr_iaload X (gk_X24 hk) (gz_inp h2) dX2_signsRead_18 ?_
      refine gr_aload_n X dX2_signsRead_19 0 rfl rfl ?_
      refine gf2_3 X (gk_X2o hk) wf_RX2_22 dX2_signsRead_20 ?_
      refine gr_iload_n X dX2_signsRead_23 2 rfl rfl ?_
      obtain ⟨h3, hf⟩ := gz_cke hf
      refine gr_iaload X (gk_X22 hk) (gz_inp h3) dX2_signsRead_24 ?_
      refine gr_isub X dX2_signsRead_25 ?_
      refine gr_iadd X dX2_signsRead_26 ?_
      obtain ⟨v4, ev4, hf⟩ := gz_lte hf
      refine gr_istore_n [(1, .int v4), (0, .ref (gx_ad x k)), (2, .int x2)] X dX2_signsRead_27 ev4 rfl (by decide) rfl ?_
      obtain ⟨v5, ev5, hf⟩ := gz_lte hf
      refine gr_iinc 1 [(2, .int v5), (1, .int v4), (0, .ref (gx_ad x k))] X dX2_signsRead_28 2 rfl (by decide) ev5 (by decide) rfl ?_
      refine gr_goto 4 X dX2_signsRead_31 (by decide) ?_
      refine gr_sub (lv' := [(0, .ref (gx_ad x k)), (1, .int v4), (2, .int v5)]) [2, 1, 0] rfl ?_
      exact ih _ _ _ hf

def f2_signsRead (k : Nat) (M0 : gz_M) : Option (Int32 × gz_M) := f2_signsRead_4 k gz_FU 0 0 M0
set_option maxRecDepth 100000 in
theorem c2_signsRead {pf : Nat → Bool} {l : Launch} {r : Int32} {M0 M' : gz_M} {k : Nat} (hk : gz_IsX2 pf k) (hf : f2_signsRead k M0 = some (r, M')) : gz_CI l gz_cfC yX2_signsRead cX2_signsRead 3 1 .int (fun ad => [.ref (ad k)]) pf M0 r M' := by
  refine gz_ofI (by decide +kernel) (fun _ => Nat.le_of_ble_eq_true rfl) (fun x X hc hE => ?_)
  show gz_At x 0 [(0, .ref (gx_ad x k))] [] M0
  unfold f2_signsRead at hf
  refine gr_iconst 0 X dX2_signsRead_0 (by decide) ?_
  refine gr_istore_n [(1, .int 0), (0, .ref (gx_ad x k))] X dX2_signsRead_1 rfl rfl (by decide) rfl ?_
  refine gr_iconst 0 X dX2_signsRead_2 (by decide) ?_
  refine gr_istore_n [(2, .int 0), (1, .int 0), (0, .ref (gx_ad x k))] X dX2_signsRead_3 rfl rfl (by decide) rfl ?_
  refine gr_sub (lv' := [(0, .ref (gx_ad x k)), (1, .int 0), (2, .int 0)]) [2, 1, 0] rfl ?_
  exact b2_signsRead_4 X hc hE hk _ _ _ _ hf

def f6_clear (M0 : gz_M) : Option (gz_M) := gz_bd (fJ_fill 122 25 0 M0) fun M1 => gz_lt (gz_w M1 69 3 0) fun M3 => gz_lt (gz_w M3 69 4 0) fun M4 => some M4
set_option maxRecDepth 100000 in
theorem c6_clear {pf : Nat → Bool} {l : Launch} {M0 M' : gz_M} (hf : f6_clear M0 = some M') : gz_CV l gz_cfC yX6_clear cX6_clear 1 2 (fun ad => [.ref (ad 69)]) pf M0 M' := by
  refine gz_ofV (by decide +kernel) (fun _ => Nat.le_of_ble_eq_true rfl) (fun x X hc hE => ?_)
  show gz_At x 0 [(0, .ref (gx_ad x 69))] [] M0
  unfold f6_clear at hf
  refine gr_aload_n X dX6_clear_0 0 rfl rfl ?_
  refine gf6_2 X wf_RX6_19 dX6_clear_1 ?_
  refine gr_iconst 0 X dX6_clear_4 (by decide) ?_
  obtain ⟨M1, q2, hf⟩ := gz_bde hf
  refine gr_callSV (asF := fun ad => [.ref (ad 122), .int 0]) [.ref (gx_ad x 122), .int 0] X (cJ_fill gk_C122 (by decide) q2) rfl wm_RX6_93 rfl (by decide) (by decide) rfl (Nat.le_of_ble_eq_true rfl) hc dX6_clear_5 ?_
  refine gr_aload_n X dX6_clear_8 0 rfl rfl ?_
  refine gr_iconst 0 X dX6_clear_9 (by decide) ?_
  obtain ⟨M3, eM3, hf⟩ := gz_lte hf
  refine gp6_3 X wf_RX6_23 eM3 dX6_clear_10 ?_
  refine gr_aload_n X dX6_clear_13 0 rfl rfl ?_
  refine gr_iconst 0 X dX6_clear_14 (by decide) ?_
  obtain ⟨M4, eM4, hf⟩ := gz_lte hf
  refine gp6_4 X wf_RX6_27 eM4 dX6_clear_15 ?_
  exact gz_EVu hE hf dX6_clear_18

def f6_indexOf_14 : Nat → Int32 → Int32 → Int32 → gz_M → Option (Int32 × gz_M)
  | 0, _, _, _, _ => none
  | n + 1, x1, x2, x3, M0 => gz_ck (gz_inb x1 25) <| if (M0.1 122 x1.toNatClampNeg) ≤ x3 then (some ((-1), M0)) else (gz_ck (gz_inb x1 25) <| gz_ck (gz_inb x3 24) <| if (M0.1 (70 + 1 + x1.toNatClampNeg) x3.toNatClampNeg) = x2 then (some (x3, M0)) else (gz_lt (x3 + 1) fun v6 => f6_indexOf_14 n x1 x2 v6 M0))
theorem b6_indexOf_14 {x : gz_X} {pf : Nat → Bool} {l : Launch} {r : Int32} {M' : gz_M} (X : gz_Ok x cX6_indexOf RX6 4 1 gz_cfC pf l) (hc : gx_cells x ≤ (gx_R x).cells ∧ gx_slots x ≤ (gx_R x).slots) (hE : gz_EI x cX6_indexOf .int r M') : ∀ (n : Nat) (x1 : Int32) (x2 : Int32) (x3 : Int32) (M0 : gz_M), f6_indexOf_14 n x1 x2 x3 M0 = some (r, M') → gz_At x 14 [(0, .ref (gx_ad x 69)), (1, .int x1), (2, .int x2), (3, .int x3)] [] M0 := by
  intro n
  induction n with
  | zero =>
    intro x1 x2 x3 M0  hf
    rw [f6_indexOf_14] at hf
    cases hf
  | succ n ih =>
    intro x1 x2 x3 M0  hf
    rw [f6_indexOf_14] at hf
    refine gr_iload_n X dX6_indexOf_14 3 rfl rfl ?_
    refine gr_aload_n X dX6_indexOf_15 0 rfl rfl ?_
    refine gf6_2 X wf_RX6_19 dX6_indexOf_16 ?_
    refine gr_iload_n X dX6_indexOf_19 1 rfl rfl ?_
    obtain ⟨h1, hf⟩ := gz_cke hf
    refine gr_iaload X gk_C122 (gz_inp h1) dX6_indexOf_20 ?_
    refine gr_icmp_ge 44 X dX6_indexOf_21 (by decide) (fun h2 => ?_) (fun h2 => ?_)
    · rw [if_pos h2] at hf
      refine gr_iconst (-1) X dX6_indexOf_44 (by decide) ?_
      exact gz_EIu hE hf rfl dX6_indexOf_45
    · rw [if_neg h2] at hf
      refine gr_aload_n X dX6_indexOf_24 0 rfl rfl ?_
      refine gf6_0 X wf_RX6_11 dX6_indexOf_25 ?_
      refine gr_iload_n X dX6_indexOf_28 1 rfl rfl ?_
      obtain ⟨h3, hf⟩ := gz_cke hf
      refine gr_aaload X gk_C70 (gz_inp h3) dX6_indexOf_29 ?_
      refine gr_iload_n X dX6_indexOf_30 3 rfl rfl ?_
      obtain ⟨h4, hf⟩ := gz_cke hf
      refine gr_iaload X (gk_X61r (gz_inl (gz_inp h3))) (gz_inp h4) dX6_indexOf_31 ?_
      refine gr_iload_n X dX6_indexOf_32 2 rfl rfl ?_
      refine gr_icmp_ne 38 X dX6_indexOf_33 (by decide) (fun h5 => ?_) (fun h5 => ?_)
      · rw [if_pos h5] at hf
        refine gr_iload_n X dX6_indexOf_36 3 rfl rfl ?_
        exact gz_EIu hE hf rfl dX6_indexOf_37
      · rw [if_neg h5] at hf
        obtain ⟨v6, ev6, hf⟩ := gz_lte hf
        refine gr_iinc 1 [(3, .int v6), (0, .ref (gx_ad x 69)), (1, .int x1), (2, .int x2)] X dX6_indexOf_38 3 rfl (by decide) ev6 (by decide) rfl ?_
        refine gr_goto 14 X dX6_indexOf_41 (by decide) ?_
        refine gr_sub (lv' := [(0, .ref (gx_ad x 69)), (1, .int x1), (2, .int x2), (3, .int v6)]) [1, 2, 3, 0] rfl ?_
        exact ih _ _ _ _ hf

def f6_indexOf (a0 : Int32) (a1 : Int32) (M0 : gz_M) : Option (Int32 × gz_M) := if a0 < 0 then (some ((-1), M0)) else (if a0 ≤ 24 then (f6_indexOf_14 gz_FU a0 a1 0 M0) else (some ((-1), M0)))
set_option maxRecDepth 100000 in
theorem c6_indexOf {pf : Nat → Bool} {l : Launch} {r : Int32} {M0 M' : gz_M} {a0 : Int32} {a1 : Int32} (hf : f6_indexOf a0 a1 M0 = some (r, M')) : gz_CI l gz_cfC yX6_indexOf cX6_indexOf 4 1 .int (fun ad => [.ref (ad 69), .int a0, .int a1]) pf M0 r M' := by
  refine gz_ofI (by decide +kernel) (fun _ => Nat.le_of_ble_eq_true rfl) (fun x X hc hE => ?_)
  show gz_At x 0 [(0, .ref (gx_ad x 69)), (1, .int a0), (2, .int a1)] [] M0
  unfold f6_indexOf at hf
  refine gr_iload_n X dX6_indexOf_0 1 rfl rfl ?_
  refine gr_if_lt 10 X dX6_indexOf_1 (by decide) (fun h1 => ?_) (fun h1 => ?_)
  · rw [if_pos h1] at hf
    refine gr_iconst (-1) X dX6_indexOf_10 (by decide) ?_
    exact gz_EIu hE hf rfl dX6_indexOf_11
  · rw [if_neg h1] at hf
    refine gr_iload_n X dX6_indexOf_4 1 rfl rfl ?_
    refine gr_bipush 24 X dX6_indexOf_5 (by decide) ?_
    refine gr_icmp_le 12 X dX6_indexOf_7 (by decide) (fun h2 => ?_) (fun h2 => ?_)
    · rw [if_pos h2] at hf
      refine gr_iconst 0 X dX6_indexOf_12 (by decide) ?_
      refine gr_istore_n [(3, .int 0), (0, .ref (gx_ad x 69)), (1, .int a0), (2, .int a1)] X dX6_indexOf_13 rfl rfl (by decide) rfl ?_
      refine gr_sub (lv' := [(0, .ref (gx_ad x 69)), (1, .int a0), (2, .int a1), (3, .int 0)]) [1, 2, 3, 0] rfl ?_
      exact b6_indexOf_14 X hc hE _ _ _ _ _ hf
    · rw [if_neg h2] at hf
      refine gr_iconst (-1) X dX6_indexOf_10 (by decide) ?_
      exact gz_EIu hE hf rfl dX6_indexOf_11

def f6_comeTo (a0 : Int32) (a1 : Int32) (M0 : gz_M) : Option (gz_M) := if a0 < 0 then (some M0) else (if a0 ≤ 24 then (gz_bd2 (f6_indexOf a0 a1 M0) fun v3 M4 => if v3 = (-1) then (gz_ck (gz_inb a0 25) <| if 24 ≤ (M4.1 122 a0.toNatClampNeg) then (some M4) else (gz_ck (gz_inb a0 25) <| gz_ck (gz_inb a0 25) <| gz_ck (gz_inb (M4.1 122 a0.toNatClampNeg) 24) <| gz_lt (gz_w M4 (70 + 1 + a0.toNatClampNeg) (M4.1 122 a0.toNatClampNeg).toNatClampNeg a1) fun M12 => gz_ck (gz_inb a0 25) <| gz_ck (gz_inb a0 25) <| gz_ck (gz_inb (M12.1 122 a0.toNatClampNeg) 24) <| gz_lt (gz_w M12 (96 + 1 + a0.toNatClampNeg) (M12.1 122 a0.toNatClampNeg).toNatClampNeg 1) fun M16 => gz_ck (gz_inb a0 25) <| gz_ck (gz_inb a0 25) <| gz_lt (gz_w M16 122 a0.toNatClampNeg ((M16.1 122 a0.toNatClampNeg) + 1)) fun M19 => gz_lt (gz_w M19 69 3 ((M19.1 69 3) + 1)) fun M20 => some M20)) else (gz_ck (gz_inb a0 25) <| gz_ck (gz_inb v3 24) <| gz_ck (gz_inb v3 24) <| gz_lt (gz_w M4 (96 + 1 + a0.toNatClampNeg) v3.toNatClampNeg ((M4.1 (96 + 1 + a0.toNatClampNeg) v3.toNatClampNeg) + 1)) fun M24 => some M24)) else (some M0))
set_option maxRecDepth 100000 in
theorem c6_comeTo {pf : Nat → Bool} {l : Launch} {M0 M' : gz_M} {a0 : Int32} {a1 : Int32} (hf : f6_comeTo a0 a1 M0 = some M') : gz_CV l gz_cfC yX6_comeTo cX6_comeTo 4 2 (fun ad => [.ref (ad 69), .int a0, .int a1]) pf M0 M' := by
  refine gz_ofV (by decide +kernel) (fun _ => Nat.le_of_ble_eq_true rfl) (fun x X hc hE => ?_)
  show gz_At x 0 [(0, .ref (gx_ad x 69)), (1, .int a0), (2, .int a1)] [] M0
  unfold f6_comeTo at hf
  refine gr_iload_n X dX6_comeTo_0 1 rfl rfl ?_
  refine gr_if_lt 10 X dX6_comeTo_1 (by decide) (fun h1 => ?_) (fun h1 => ?_)
  · rw [if_pos h1] at hf
    exact gz_EVu hE hf dX6_comeTo_10
  · rw [if_neg h1] at hf
    refine gr_iload_n X dX6_comeTo_4 1 rfl rfl ?_
    refine gr_bipush 24 X dX6_comeTo_5 (by decide) ?_
    refine gr_icmp_le 11 X dX6_comeTo_7 (by decide) (fun h2 => ?_) (fun h2 => ?_)
    · rw [if_pos h2] at hf
      refine gr_aload_n X dX6_comeTo_11 0 rfl rfl ?_
      refine gr_iload_n X dX6_comeTo_12 1 rfl rfl ?_
      refine gr_iload_n X dX6_comeTo_13 2 rfl rfl ?_
      obtain ⟨v3, M4, q5, hf⟩ := gz_bd2e hf
      refine gr_callI (asF := fun ad => [.ref (ad 69), .int a0, .int a1]) [.int a0, .int a1] X (c6_indexOf q5) rfl wm_RX6_85 rfl (X.kd gk_C69).1 ((X.kd gk_C69).2 _ _ _ _) rfl (by decide) (by decide) rfl (Nat.le_of_ble_eq_true rfl) hc dX6_comeTo_14 ?_
      refine gr_istore_n [(3, .int v3), (0, .ref (gx_ad x 69)), (1, .int a0), (2, .int a1)] X dX6_comeTo_17 rfl rfl (by decide) rfl ?_
      refine gr_iload_n X dX6_comeTo_18 0 rfl rfl ?_
      refine gr_iconst (-1) X dX6_comeTo_19 (by decide) ?_
      refine gr_icmp_eq 38 X dX6_comeTo_20 (by decide) (fun h6 => ?_) (fun h6 => ?_)
      · rw [if_pos h6] at hf
        refine gr_aload_n X dX6_comeTo_38 1 rfl rfl ?_
        refine gf6_2 X wf_RX6_19 dX6_comeTo_39 ?_
        refine gr_iload_n X dX6_comeTo_42 2 rfl rfl ?_
        obtain ⟨h7, hf⟩ := gz_cke hf
        refine gr_iaload X gk_C122 (gz_inp h7) dX6_comeTo_43 ?_
        refine gr_bipush 24 X dX6_comeTo_44 (by decide) ?_
        refine gr_icmp_ge 97 X dX6_comeTo_46 (by decide) (fun h8 => ?_) (fun h8 => ?_)
        · rw [if_pos h8] at hf
          exact gz_EVu hE hf dX6_comeTo_97
        · rw [if_neg h8] at hf
          refine gr_aload_n X dX6_comeTo_49 1 rfl rfl ?_
          refine gf6_0 X wf_RX6_11 dX6_comeTo_50 ?_
          refine gr_iload_n X dX6_comeTo_53 2 rfl rfl ?_
          obtain ⟨h9, hf⟩ := gz_cke hf
          refine gr_aaload X gk_C70 (gz_inp h9) dX6_comeTo_54 ?_
          refine gr_aload_n X dX6_comeTo_55 1 rfl rfl ?_
          refine gf6_2 X wf_RX6_19 dX6_comeTo_56 ?_
          refine gr_iload_n X dX6_comeTo_59 2 rfl rfl ?_
          obtain ⟨h10, hf⟩ := gz_cke hf
          refine gr_iaload X gk_C122 (gz_inp h10) dX6_comeTo_60 ?_
          refine gr_iload_n X dX6_comeTo_61 3 rfl rfl ?_
          obtain ⟨h11, hf⟩ := gz_cke hf
          obtain ⟨M12, eM12, hf⟩ := gz_lte hf
          refine gr_iastore X (gk_X61r (gz_inl (gz_inp h9))) (gz_inp h11) eM12 dX6_comeTo_62 ?_
          refine gr_aload_n X dX6_comeTo_63 1 rfl rfl ?_
          refine gf6_1 X wf_RX6_16 dX6_comeTo_64 ?_
          refine gr_iload_n X dX6_comeTo_67 2 rfl rfl ?_
          obtain ⟨h13, hf⟩ := gz_cke hf
          refine gr_aaload X gk_C96 (gz_inp h13) dX6_comeTo_68 ?_
          refine gr_aload_n X dX6_comeTo_69 1 rfl rfl ?_
          refine gf6_2 X wf_RX6_19 dX6_comeTo_70 ?_
          refine gr_iload_n X dX6_comeTo_73 2 rfl rfl ?_
          obtain ⟨h14, hf⟩ := gz_cke hf
          refine gr_iaload X gk_C122 (gz_inp h14) dX6_comeTo_74 ?_
          refine gr_iconst 1 X dX6_comeTo_75 (by decide) ?_
          obtain ⟨h15, hf⟩ := gz_cke hf
          obtain ⟨M16, eM16, hf⟩ := gz_lte hf
          refine gr_iastore X (gk_X627r (gz_inl (gz_inp h13))) (gz_inp h15) eM16 dX6_comeTo_76 ?_
          refine gr_aload_n X dX6_comeTo_77 1 rfl rfl ?_
          refine gf6_2 X wf_RX6_19 dX6_comeTo_78 ?_
          refine gr_iload_n X dX6_comeTo_81 2 rfl rfl ?_
          refine gr_dup2 X dX6_comeTo_82 rfl rfl ?_
          obtain ⟨h17, hf⟩ := gz_cke hf
          refine gr_iaload X gk_C122 (gz_inp h17) dX6_comeTo_83 ?_
          refine gr_iconst 1 X dX6_comeTo_84 (by decide) ?_
          refine gr_iadd X dX6_comeTo_85 ?_
          obtain ⟨h18, hf⟩ := gz_cke hf
          obtain ⟨M19, eM19, hf⟩ := gz_lte hf
          refine gr_iastore X gk_C122 (gz_inp h18) eM19 dX6_comeTo_86 ?_
          refine gr_aload_n X dX6_comeTo_87 1 rfl rfl ?_
          refine gr_dup X dX6_comeTo_88 rfl ?_
          refine gf6_3 X wf_RX6_23 dX6_comeTo_89 ?_
          refine gr_iconst 1 X dX6_comeTo_92 (by decide) ?_
          refine gr_iadd X dX6_comeTo_93 ?_
          obtain ⟨M20, eM20, hf⟩ := gz_lte hf
          refine gp6_3 X wf_RX6_23 eM20 dX6_comeTo_94 ?_
          exact gz_EVu hE hf dX6_comeTo_97
      · rw [if_neg h6] at hf
        refine gr_aload_n X dX6_comeTo_23 1 rfl rfl ?_
        refine gf6_1 X wf_RX6_16 dX6_comeTo_24 ?_
        refine gr_iload_n X dX6_comeTo_27 2 rfl rfl ?_
        obtain ⟨h21, hf⟩ := gz_cke hf
        refine gr_aaload X gk_C96 (gz_inp h21) dX6_comeTo_28 ?_
        refine gr_iload_n X dX6_comeTo_29 0 rfl rfl ?_
        refine gr_dup2 X dX6_comeTo_30 rfl rfl ?_
        obtain ⟨h22, hf⟩ := gz_cke hf
        refine gr_iaload X (gk_X627r (gz_inl (gz_inp h21))) (gz_inp h22) dX6_comeTo_31 ?_
        refine gr_iconst 1 X dX6_comeTo_32 (by decide) ?_
        refine gr_iadd X dX6_comeTo_33 ?_
        obtain ⟨h23, hf⟩ := gz_cke hf
        obtain ⟨M24, eM24, hf⟩ := gz_lte hf
        refine gr_iastore X (gk_X627r (gz_inl (gz_inp h21))) (gz_inp h23) eM24 dX6_comeTo_34 ?_
        refine gr_goto 97 X dX6_comeTo_35 (by decide) ?_
        exact gz_EVu hE hf dX6_comeTo_97
    · rw [if_neg h2] at hf
      exact gz_EVu hE hf dX6_comeTo_10

def f6_keyOf (a0 : Int32) (a1 : Int32) (M0 : gz_M) : Option (Int32 × gz_M) := some ((a0 * 1024) + a1, M0)
set_option maxRecDepth 100000 in
theorem c6_keyOf {pf : Nat → Bool} {l : Launch} {r : Int32} {M0 M' : gz_M} {a0 : Int32} {a1 : Int32} (hf : f6_keyOf a0 a1 M0 = some (r, M')) : gz_CI l gz_cfC yX6_keyOf cX6_keyOf 2 1 .int (fun _ => [.int a0, .int a1]) pf M0 r M' := by
  refine gz_ofI (by decide +kernel) (fun _ => Nat.le_of_ble_eq_true rfl) (fun x X hc hE => ?_)
  show gz_At x 0 [(0, .int a0), (1, .int a1)] [] M0
  unfold f6_keyOf at hf
  refine gr_iload_n X dX6_keyOf_0 0 rfl rfl ?_
  refine gr_sipush 1024 X dX6_keyOf_1 (by decide) ?_
  refine gr_imul X dX6_keyOf_4 ?_
  refine gr_iload_n X dX6_keyOf_5 1 rfl rfl ?_
  refine gr_iadd X dX6_keyOf_6 ?_
  exact gz_EIu hE hf rfl dX6_keyOf_7

def f6_walk_42 (k0 : Nat) (k1 : Nat) (k2 : Nat) (c7 : Int32 → gz_M → Option (gz_M)) : Nat → Int32 → Int32 → Int32 → Int32 → gz_M → Option (gz_M)
  | 0, _, _, _, _, _ => none
  | n + 1, x4, x5, x6, x7, M0 => gz_ck (gz_inb x4 24) <| if (M0.1 (k2 + 4) x4.toNatClampNeg) ≤ x7 then (gz_lt (x4 + 1) fun v3 => c7 v3 M0) else (gz_bd2 (f5_get k1 x7 M0) fun v4 M5 => gz_bd2 (f7_takersOf k0 x5 v4 M5) fun v7 M8 => gz_lt (x6 &&& v7) fun v10 => gz_bd2 (f7_after k0 x5 v10 M8) fun v11 M12 => if v10 = 0 then (gz_lt (x7 + 1) fun v15 => f6_walk_42 k0 k1 k2 c7 n x4 x5 v11 v15 M12) else (gz_bd2 (f6_keyOf x5 v10 M12) fun v16 M17 => gz_bd (f6_comeTo (x7 + 1) v16 M17) fun M19 => gz_lt (x7 + 1) fun v21 => f6_walk_42 k0 k1 k2 c7 n x4 x5 v11 v21 M19))
theorem b6_walk_42 {x : gz_X} {pf : Nat → Bool} {l : Launch} {M' : gz_M} (X : gz_Ok x cX6_walk RX6 9 3 gz_cfC pf l) (hc : gx_cells x ≤ (gx_R x).cells ∧ gx_slots x ≤ (gx_R x).slots) (hE : gz_EV x cX6_walk M') {k0 : Nat} {k1 : Nat} {k2 : Nat} (hk0 : gz_IsX7 pf k0) (hk1 : gz_IsX5 pf k1) (hk2 : gz_IsX2 pf k2) {c7 : Int32 → gz_M → Option (gz_M)} (hc7 : ∀ (x4 : Int32) (M0 : gz_M), c7 x4 M0 = some M' → gz_At x 7 [(0, .ref (gx_ad x 69)), (1, .ref (gx_ad x k0)), (2, .ref (gx_ad x k1)), (3, .ref (gx_ad x k2)), (4, .int x4)] [] M0) : ∀ (n : Nat) (x4 : Int32) (x5 : Int32) (x6 : Int32) (x7 : Int32) (M0 : gz_M), f6_walk_42 k0 k1 k2 c7 n x4 x5 x6 x7 M0 = some M' → gz_At x 42 [(0, .ref (gx_ad x 69)), (1, .ref (gx_ad x k0)), (2, .ref (gx_ad x k1)), (3, .ref (gx_ad x k2)), (4, .int x4), (5, .int x5), (6, .int x6), (7, .int x7)] [] M0 := by
  intro n
  induction n with
  | zero =>
    intro x4 x5 x6 x7 M0  hf
    rw [f6_walk_42] at hf
    cases hf
  | succ n ih =>
    intro x4 x5 x6 x7 M0  hf
    rw [f6_walk_42] at hf
    refine gr_iload X dX6_walk_42 7 rfl ?_
    refine gr_aload_n X dX6_walk_44 3 rfl rfl ?_
    refine gf2_5 X (gk_X2o hk2) wf_RX6_50 dX6_walk_45 ?_
    refine gr_iload X dX6_walk_48 4 rfl ?_
    obtain ⟨h1, hf⟩ := gz_cke hf
    refine gr_iaload X (gk_X24 hk2) (gz_inp h1) dX6_walk_50 ?_
    refine gr_icmp_ge 107 X dX6_walk_51 (by decide) (fun h2 => ?_) (fun h2 => ?_)
    · rw [if_pos h2] at hf
      obtain ⟨v3, ev3, hf⟩ := gz_lte hf
      refine gr_iinc 1 [(4, .int v3), (0, .ref (gx_ad x 69)), (1, .ref (gx_ad x k0)), (2, .ref (gx_ad x k1)), (3, .ref (gx_ad x k2)), (5, .int x5), (6, .int x6), (7, .int x7)] X dX6_walk_107 4 rfl (by decide) ev3 (by decide) rfl ?_
      refine gr_goto 7 X dX6_walk_110 (by decide) ?_
      refine gr_sub (lv' := [(0, .ref (gx_ad x 69)), (1, .ref (gx_ad x k0)), (2, .ref (gx_ad x k1)), (3, .ref (gx_ad x k2)), (4, .int v3)]) [1, 2, 3, 4, 0] rfl ?_
      exact hc7 _ _ hf
    · rw [if_neg h2] at hf
      refine gr_iload X dX6_walk_54 6 rfl ?_
      refine gr_aload_n X dX6_walk_56 1 rfl rfl ?_
      refine gr_iload X dX6_walk_57 5 rfl ?_
      refine gr_aload_n X dX6_walk_59 2 rfl rfl ?_
      refine gr_iload X dX6_walk_60 7 rfl ?_
      obtain ⟨v4, M5, q6, hf⟩ := gz_bd2e hf
      refine gr_callI (asF := fun ad => [.ref (ad k1), .int x7]) [.int x7] X (c5_get hk1 q6) rfl wm_RX6_53 rfl (X.kd (gk_X5o hk1)).1 ((X.kd (gk_X5o hk1)).2 _ _ _ _) rfl (by decide) (by decide) rfl (Nat.le_of_ble_eq_true rfl) hc dX6_walk_62 ?_
      obtain ⟨v7, M8, q9, hf⟩ := gz_bd2e hf
      refine gr_callI (asF := fun ad => [.ref (ad k0), .int x5, .int v4]) [.int x5, .int v4] X (c7_takersOf hk0 q9) rfl wm_RX6_58 rfl (X.kd (gk_X7o hk0)).1 ((X.kd (gk_X7o hk0)).2 _ _ _ _) rfl (by decide) (by decide) rfl (Nat.le_of_ble_eq_true rfl) hc dX6_walk_65 ?_
      refine gr_iand X dX6_walk_68 ?_
      obtain ⟨v10, ev10, hf⟩ := gz_lte hf
      refine gr_istore [(8, .int v10), (0, .ref (gx_ad x 69)), (1, .ref (gx_ad x k0)), (2, .ref (gx_ad x k1)), (3, .ref (gx_ad x k2)), (4, .int x4), (5, .int x5), (6, .int x6), (7, .int x7)] X dX6_walk_69 ev10 (by decide) rfl ?_
      refine gr_aload_n X dX6_walk_71 2 rfl rfl ?_
      refine gr_iload X dX6_walk_72 6 rfl ?_
      refine gr_iload X dX6_walk_74 0 rfl ?_
      obtain ⟨v11, M12, q13, hf⟩ := gz_bd2e hf
      refine gr_callI (asF := fun ad => [.ref (ad k0), .int x5, .int v10]) [.int x5, .int v10] X (c7_after hk0 q13) rfl wm_RX6_62 rfl (X.kd (gk_X7o hk0)).1 ((X.kd (gk_X7o hk0)).2 _ _ _ _) rfl (by decide) (by decide) rfl (Nat.le_of_ble_eq_true rfl) hc dX6_walk_76 ?_
      refine gr_istore [(6, .int v11), (8, .int v10), (0, .ref (gx_ad x 69)), (1, .ref (gx_ad x k0)), (2, .ref (gx_ad x k1)), (3, .ref (gx_ad x k2)), (4, .int x4), (5, .int x5), (7, .int x7)] X dX6_walk_79 rfl (by decide) rfl ?_
      refine gr_iload X dX6_walk_81 1 rfl ?_
      refine gr_if_eq 101 X dX6_walk_83 (by decide) (fun h14 => ?_) (fun h14 => ?_)
      · rw [if_pos h14] at hf
        obtain ⟨v15, ev15, hf⟩ := gz_lte hf
        refine gr_iinc 1 [(7, .int v15), (6, .int v11), (8, .int v10), (0, .ref (gx_ad x 69)), (1, .ref (gx_ad x k0)), (2, .ref (gx_ad x k1)), (3, .ref (gx_ad x k2)), (4, .int x4), (5, .int x5)] X dX6_walk_101 8 rfl (by decide) ev15 (by decide) rfl ?_
        refine gr_goto 42 X dX6_walk_104 (by decide) ?_
        refine gr_sub (lv' := [(0, .ref (gx_ad x 69)), (1, .ref (gx_ad x k0)), (2, .ref (gx_ad x k1)), (3, .ref (gx_ad x k2)), (4, .int x4), (5, .int x5), (6, .int v11), (7, .int v15)]) [3, 4, 5, 6, 7, 8, 1, 0] rfl ?_
        exact ih _ _ _ _ _ hf
      · rw [if_neg h14] at hf
        refine gr_aload_n X dX6_walk_86 2 rfl rfl ?_
        refine gr_iload X dX6_walk_87 8 rfl ?_
        refine gr_iconst 1 X dX6_walk_89 (by decide) ?_
        refine gr_iadd X dX6_walk_90 ?_
        refine gr_iload X dX6_walk_91 7 rfl ?_
        refine gr_iload X dX6_walk_93 1 rfl ?_
        obtain ⟨v16, M17, q18, hf⟩ := gz_bd2e hf
        refine gr_callSI (asF := fun _ => [.int x5, .int v10]) [.int x5, .int v10] X (c6_keyOf q18) rfl wm_RX6_65 rfl (by decide) (by decide) rfl (Nat.le_of_ble_eq_true rfl) hc dX6_walk_95 ?_
        obtain ⟨M19, q20, hf⟩ := gz_bde hf
        refine gr_callV (asF := fun ad => [.ref (ad 69), .int (x7 + 1), .int v16]) [.int (x7 + 1), .int v16] X (c6_comeTo q20) rfl wm_RX6_68 rfl (X.kd gk_C69).1 ((X.kd gk_C69).2 _ _ _ _) rfl (by decide) (by decide) rfl (Nat.le_of_ble_eq_true rfl) hc dX6_walk_98 ?_
        obtain ⟨v21, ev21, hf⟩ := gz_lte hf
        refine gr_iinc 1 [(7, .int v21), (6, .int v11), (8, .int v10), (0, .ref (gx_ad x 69)), (1, .ref (gx_ad x k0)), (2, .ref (gx_ad x k1)), (3, .ref (gx_ad x k2)), (4, .int x4), (5, .int x5)] X dX6_walk_101 8 rfl (by decide) ev21 (by decide) rfl ?_
        refine gr_goto 42 X dX6_walk_104 (by decide) ?_
        refine gr_sub (lv' := [(0, .ref (gx_ad x 69)), (1, .ref (gx_ad x k0)), (2, .ref (gx_ad x k1)), (3, .ref (gx_ad x k2)), (4, .int x4), (5, .int x5), (6, .int v11), (7, .int v21)]) [3, 4, 5, 6, 7, 8, 1, 0] rfl ?_
        exact ih _ _ _ _ _ hf

def f6_walk_7 (k0 : Nat) (k1 : Nat) (k2 : Nat) : Nat → Int32 → gz_M → Option (gz_M)
  | 0, _, _ => none
  | n + 1, x4, M0 => if (M0.1 k2 0) ≤ x4 then (some M0) else (gz_ck (gz_inb x4 24) <| gz_lt (M0.1 (k2 + 6) x4.toNatClampNeg) fun v3 => gz_bd2 (f7_atFirst k0 v3 M0) fun v4 M5 => gz_ck (gz_inb x4 24) <| gz_lt (M5.1 (k2 + 2) x4.toNatClampNeg) fun v8 => f6_walk_42 k0 k1 k2 (f6_walk_7 k0 k1 k2 n) gz_FU x4 v3 v4 v8 M5)
theorem b6_walk_7 {x : gz_X} {pf : Nat → Bool} {l : Launch} {M' : gz_M} (X : gz_Ok x cX6_walk RX6 9 3 gz_cfC pf l) (hc : gx_cells x ≤ (gx_R x).cells ∧ gx_slots x ≤ (gx_R x).slots) (hE : gz_EV x cX6_walk M') {k0 : Nat} {k1 : Nat} {k2 : Nat} (hk0 : gz_IsX7 pf k0) (hk1 : gz_IsX5 pf k1) (hk2 : gz_IsX2 pf k2) : ∀ (n : Nat) (x4 : Int32) (M0 : gz_M), f6_walk_7 k0 k1 k2 n x4 M0 = some M' → gz_At x 7 [(0, .ref (gx_ad x 69)), (1, .ref (gx_ad x k0)), (2, .ref (gx_ad x k1)), (3, .ref (gx_ad x k2)), (4, .int x4)] [] M0 := by
  intro n
  induction n with
  | zero =>
    intro x4 M0  hf
    rw [f6_walk_7] at hf
    cases hf
  | succ n ih =>
    intro x4 M0  hf
    rw [f6_walk_7] at hf
    refine gr_iload X dX6_walk_7 4 rfl ?_
    refine gr_aload_n X dX6_walk_9 3 rfl rfl ?_
    refine gf2_0 X (gk_X2o hk2) wf_RX6_33 dX6_walk_10 ?_
    refine gr_icmp_ge 113 X dX6_walk_13 (by decide) (fun h1 => ?_) (fun h1 => ?_)
    · rw [if_pos h1] at hf
      exact gz_EVu hE hf dX6_walk_113
    · rw [if_neg h1] at hf
      refine gr_aload_n X dX6_walk_16 3 rfl rfl ?_
      refine gf2_7 X (gk_X2o hk2) wf_RX6_38 dX6_walk_17 ?_
      refine gr_iload X dX6_walk_20 4 rfl ?_
      obtain ⟨h2, hf⟩ := gz_cke hf
      refine gr_iaload X (gk_X26 hk2) (gz_inp h2) dX6_walk_22 ?_
      obtain ⟨v3, ev3, hf⟩ := gz_lte hf
      refine gr_istore [(5, .int v3), (0, .ref (gx_ad x 69)), (1, .ref (gx_ad x k0)), (2, .ref (gx_ad x k1)), (3, .ref (gx_ad x k2)), (4, .int x4)] X dX6_walk_23 ev3 (by decide) rfl ?_
      refine gr_aload_n X dX6_walk_25 2 rfl rfl ?_
      refine gr_iload X dX6_walk_26 0 rfl ?_
      obtain ⟨v4, M5, q6, hf⟩ := gz_bd2e hf
      refine gr_callI (asF := fun ad => [.ref (ad k0), .int v3]) [.int v3] X (c7_atFirst hk0 q6) rfl wm_RX6_41 rfl (X.kd (gk_X7o hk0)).1 ((X.kd (gk_X7o hk0)).2 _ _ _ _) rfl (by decide) (by decide) rfl (Nat.le_of_ble_eq_true rfl) hc dX6_walk_28 ?_
      refine gr_istore [(6, .int v4), (5, .int v3), (0, .ref (gx_ad x 69)), (1, .ref (gx_ad x k0)), (2, .ref (gx_ad x k1)), (3, .ref (gx_ad x k2)), (4, .int x4)] X dX6_walk_31 rfl (by decide) rfl ?_
      refine gr_aload_n X dX6_walk_33 5 rfl rfl ?_
      refine gf2_3 X (gk_X2o hk2) wf_RX6_47 dX6_walk_34 ?_
      refine gr_iload X dX6_walk_37 6 rfl ?_
      obtain ⟨h7, hf⟩ := gz_cke hf
      refine gr_iaload X (gk_X22 hk2) (gz_inp h7) dX6_walk_39 ?_
      obtain ⟨v8, ev8, hf⟩ := gz_lte hf
      refine gr_istore [(7, .int v8), (6, .int v4), (5, .int v3), (0, .ref (gx_ad x 69)), (1, .ref (gx_ad x k0)), (2, .ref (gx_ad x k1)), (3, .ref (gx_ad x k2)), (4, .int x4)] X dX6_walk_40 ev8 (by decide) rfl ?_
      refine gr_sub (lv' := [(0, .ref (gx_ad x 69)), (1, .ref (gx_ad x k0)), (2, .ref (gx_ad x k1)), (3, .ref (gx_ad x k2)), (4, .int x4), (5, .int v3), (6, .int v4), (7, .int v8)]) [3, 4, 5, 6, 7, 2, 1, 0] rfl ?_
      exact b6_walk_42 X hc hE hk0 hk1 hk2 ih _ _ _ _ _ _ hf

def f6_walk (k0 : Nat) (k1 : Nat) (k2 : Nat) (M0 : gz_M) : Option (gz_M) := gz_bd (f6_clear M0) fun M1 => f6_walk_7 k0 k1 k2 gz_FU 0 M1
set_option maxRecDepth 100000 in
theorem c6_walk {pf : Nat → Bool} {l : Launch} {M0 M' : gz_M} {k0 : Nat} {k1 : Nat} {k2 : Nat} (hk0 : gz_IsX7 pf k0) (hk1 : gz_IsX5 pf k1) (hk2 : gz_IsX2 pf k2) (hf : f6_walk k0 k1 k2 M0 = some M') : gz_CV l gz_cfC yX6_walk cX6_walk 9 3 (fun ad => [.ref (ad 69), .ref (ad k0), .ref (ad k1), .ref (ad k2)]) pf M0 M' := by
  refine gz_ofV (by decide +kernel) (fun _ => Nat.le_of_ble_eq_true rfl) (fun x X hc hE => ?_)
  show gz_At x 0 [(0, .ref (gx_ad x 69)), (1, .ref (gx_ad x k0)), (2, .ref (gx_ad x k1)), (3, .ref (gx_ad x k2))] [] M0
  unfold f6_walk at hf
  refine gr_aload_n X dX6_walk_0 0 rfl rfl ?_
  obtain ⟨M1, q2, hf⟩ := gz_bde hf
  refine gr_callV (asF := fun ad => [.ref (ad 69)]) [] X (c6_clear q2) rfl wm_RX6_30 rfl (X.kd gk_C69).1 ((X.kd gk_C69).2 _ _ _ _) rfl (by decide) (by decide) rfl (Nat.le_of_ble_eq_true rfl) hc dX6_walk_1 ?_
  refine gr_iconst 0 X dX6_walk_4 (by decide) ?_
  refine gr_istore [(4, .int 0), (0, .ref (gx_ad x 69)), (1, .ref (gx_ad x k0)), (2, .ref (gx_ad x k1)), (3, .ref (gx_ad x k2))] X dX6_walk_5 rfl (by decide) rfl ?_
  refine gr_sub (lv' := [(0, .ref (gx_ad x 69)), (1, .ref (gx_ad x k0)), (2, .ref (gx_ad x k1)), (3, .ref (gx_ad x k2)), (4, .int 0)]) [1, 2, 3, 4, 0] rfl ?_
  exact b6_walk_7 X hc hE hk0 hk1 hk2 _ _ _ hf

def f6_readOn_95 (k0 : Nat) (k1 : Nat) (c14 : Int32 → Int32 → Int32 → Int32 → Int32 → gz_M → Option (gz_M)) (x3 : Int32) (x5 : Int32) (x6 : Int32) (x8 : Int32) (x10 : Int32) (s0 : Int32) (M0 : gz_M) : Option (gz_M) := if s0 = 0 then (gz_lt (x8 + 1) fun v2 => c14 x3 x5 x6 s0 v2 M0) else (if (x8 + 1) ≤ x5 then (gz_lt (x8 + 1) fun v4 => c14 x3 x5 x6 s0 v4 M0) else (gz_bd (f6_comeTo (x8 + 1) x10 M0) fun M5 => gz_lt (x8 + 1) fun v7 => c14 x3 x5 x6 s0 v7 M5))
theorem b6_readOn_95 {x : gz_X} {pf : Nat → Bool} {l : Launch} {M' : gz_M} (X : gz_Ok x cX6_readOn RX6 11 3 gz_cfC pf l) (hc : gx_cells x ≤ (gx_R x).cells ∧ gx_slots x ≤ (gx_R x).slots) (hE : gz_EV x cX6_readOn M') {k0 : Nat} {k1 : Nat} (hk0 : gz_IsX7 pf k0) (hk1 : gz_IsX5 pf k1) {c14 : Int32 → Int32 → Int32 → Int32 → Int32 → gz_M → Option (gz_M)} (hc14 : ∀ (x3 : Int32) (x5 : Int32) (x6 : Int32) (x7 : Int32) (x8 : Int32) (M0 : gz_M), c14 x3 x5 x6 x7 x8 M0 = some M' → gz_At x 14 [(0, .ref (gx_ad x 69)), (1, .ref (gx_ad x k0)), (2, .ref (gx_ad x k1)), (3, .int x3), (5, .int x5), (6, .int x6), (7, .int x7), (8, .int x8)] [] M0) : ∀ (x3 : Int32) (x5 : Int32) (x6 : Int32) (x8 : Int32) (x10 : Int32) (s0 : Int32) (M0 : gz_M), f6_readOn_95 k0 k1 c14 x3 x5 x6 x8 x10 s0 M0 = some M' → gz_At x 95 [(0, .ref (gx_ad x 69)), (1, .ref (gx_ad x k0)), (2, .ref (gx_ad x k1)), (3, .int x3), (5, .int x5), (6, .int x6), (8, .int x8), (10, .int x10)] [.int s0] M0 := by
  intro x3 x5 x6 x8 x10 s0 M0  hf
  rw [f6_readOn_95] at hf
  refine gr_istore [(7, .int s0), (0, .ref (gx_ad x 69)), (1, .ref (gx_ad x k0)), (2, .ref (gx_ad x k1)), (3, .int x3), (5, .int x5), (6, .int x6), (8, .int x8), (10, .int x10)] X dX6_readOn_95 rfl (by decide) rfl ?_
  refine gr_iload X dX6_readOn_97 0 rfl ?_
  refine gr_if_eq 121 X dX6_readOn_99 (by decide) (fun h1 => ?_) (fun h1 => ?_)
  · rw [if_pos h1] at hf
    obtain ⟨v2, ev2, hf⟩ := gz_lte hf
    refine gr_iinc 1 [(8, .int v2), (7, .int s0), (0, .ref (gx_ad x 69)), (1, .ref (gx_ad x k0)), (2, .ref (gx_ad x k1)), (3, .int x3), (5, .int x5), (6, .int x6), (10, .int x10)] X dX6_readOn_121 7 rfl (by decide) ev2 (by decide) rfl ?_
    refine gr_goto 14 X dX6_readOn_124 (by decide) ?_
    refine gr_sub (lv' := [(0, .ref (gx_ad x 69)), (1, .ref (gx_ad x k0)), (2, .ref (gx_ad x k1)), (3, .int x3), (5, .int x5), (6, .int x6), (7, .int s0), (8, .int v2)]) [2, 3, 4, 5, 6, 7, 1, 0] rfl ?_
    exact hc14 _ _ _ _ _ _ hf
  · rw [if_neg h1] at hf
    refine gr_iload X dX6_readOn_102 7 rfl ?_
    refine gr_iconst 1 X dX6_readOn_104 (by decide) ?_
    refine gr_iadd X dX6_readOn_105 ?_
    refine gr_iload X dX6_readOn_106 5 rfl ?_
    refine gr_icmp_le 121 X dX6_readOn_108 (by decide) (fun h3 => ?_) (fun h3 => ?_)
    · rw [if_pos h3] at hf
      obtain ⟨v4, ev4, hf⟩ := gz_lte hf
      refine gr_iinc 1 [(8, .int v4), (7, .int s0), (0, .ref (gx_ad x 69)), (1, .ref (gx_ad x k0)), (2, .ref (gx_ad x k1)), (3, .int x3), (5, .int x5), (6, .int x6), (10, .int x10)] X dX6_readOn_121 7 rfl (by decide) ev4 (by decide) rfl ?_
      refine gr_goto 14 X dX6_readOn_124 (by decide) ?_
      refine gr_sub (lv' := [(0, .ref (gx_ad x 69)), (1, .ref (gx_ad x k0)), (2, .ref (gx_ad x k1)), (3, .int x3), (5, .int x5), (6, .int x6), (7, .int s0), (8, .int v4)]) [2, 3, 4, 5, 6, 7, 1, 0] rfl ?_
      exact hc14 _ _ _ _ _ _ hf
    · rw [if_neg h3] at hf
      refine gr_aload_n X dX6_readOn_111 1 rfl rfl ?_
      refine gr_iload X dX6_readOn_112 7 rfl ?_
      refine gr_iconst 1 X dX6_readOn_114 (by decide) ?_
      refine gr_iadd X dX6_readOn_115 ?_
      refine gr_iload X dX6_readOn_116 8 rfl ?_
      obtain ⟨M5, q6, hf⟩ := gz_bde hf
      refine gr_callV (asF := fun ad => [.ref (ad 69), .int (x8 + 1), .int x10]) [.int (x8 + 1), .int x10] X (c6_comeTo q6) rfl wm_RX6_68 rfl (X.kd gk_C69).1 ((X.kd gk_C69).2 _ _ _ _) rfl (by decide) (by decide) rfl (Nat.le_of_ble_eq_true rfl) hc dX6_readOn_118 ?_
      obtain ⟨v7, ev7, hf⟩ := gz_lte hf
      refine gr_iinc 1 [(8, .int v7), (7, .int s0), (0, .ref (gx_ad x 69)), (1, .ref (gx_ad x k0)), (2, .ref (gx_ad x k1)), (3, .int x3), (5, .int x5), (6, .int x6), (10, .int x10)] X dX6_readOn_121 7 rfl (by decide) ev7 (by decide) rfl ?_
      refine gr_goto 14 X dX6_readOn_124 (by decide) ?_
      refine gr_sub (lv' := [(0, .ref (gx_ad x 69)), (1, .ref (gx_ad x k0)), (2, .ref (gx_ad x k1)), (3, .int x3), (5, .int x5), (6, .int x6), (7, .int s0), (8, .int v7)]) [2, 3, 4, 5, 6, 7, 1, 0] rfl ?_
      exact hc14 _ _ _ _ _ _ hf

def f6_readOn_14 (k0 : Nat) (k1 : Nat) : Nat → Int32 → Int32 → Int32 → Int32 → Int32 → gz_M → Option (gz_M)
  | 0, _, _, _, _, _, _ => none
  | n + 1, x3, x5, x6, x7, x8, M0 => if (M0.1 k1 1) ≤ x8 then (some M0) else (if x7 = 0 then (some M0) else (gz_bd2 (f5_get k1 x8 M0) fun v3 M4 => gz_bd2 (f7_takersOf k0 x3 v3 M4) fun v6 M7 => gz_lt (x6 &&& v6) fun v9 => gz_bd2 (f7_after k0 x3 v9 M7) fun v10 M11 => gz_lt (gz_w M11 69 4 ((M11.1 69 4) + 1)) fun M13 => gz_bd2 (f6_keyOf x3 v9 M13) fun v14 M15 => if v9 = 0 then (f6_readOn_95 k0 k1 (f6_readOn_14 k0 k1 n) x3 x5 v10 x8 v14 0 M15) else (gz_bd2 (f6_indexOf (x8 + 1) v14 M15) fun v18 M19 => if v18 = (-1) then (f6_readOn_95 k0 k1 (f6_readOn_14 k0 k1 n) x3 x5 v10 x8 v14 1 M19) else (f6_readOn_95 k0 k1 (f6_readOn_14 k0 k1 n) x3 x5 v10 x8 v14 0 M19))))
theorem b6_readOn_14 {x : gz_X} {pf : Nat → Bool} {l : Launch} {M' : gz_M} (X : gz_Ok x cX6_readOn RX6 11 3 gz_cfC pf l) (hc : gx_cells x ≤ (gx_R x).cells ∧ gx_slots x ≤ (gx_R x).slots) (hE : gz_EV x cX6_readOn M') {k0 : Nat} {k1 : Nat} (hk0 : gz_IsX7 pf k0) (hk1 : gz_IsX5 pf k1) : ∀ (n : Nat) (x3 : Int32) (x5 : Int32) (x6 : Int32) (x7 : Int32) (x8 : Int32) (M0 : gz_M), f6_readOn_14 k0 k1 n x3 x5 x6 x7 x8 M0 = some M' → gz_At x 14 [(0, .ref (gx_ad x 69)), (1, .ref (gx_ad x k0)), (2, .ref (gx_ad x k1)), (3, .int x3), (5, .int x5), (6, .int x6), (7, .int x7), (8, .int x8)] [] M0 := by
  intro n
  induction n with
  | zero =>
    intro x3 x5 x6 x7 x8 M0  hf
    rw [f6_readOn_14] at hf
    cases hf
  | succ n ih =>
    intro x3 x5 x6 x7 x8 M0  hf
    rw [f6_readOn_14] at hf
    refine gr_iload X dX6_readOn_14 7 rfl ?_
    refine gr_aload_n X dX6_readOn_16 2 rfl rfl ?_
    refine gf5_1 X (gk_X5o hk1) wf_RX6_82 dX6_readOn_17 ?_
    refine gr_icmp_ge 127 X dX6_readOn_20 (by decide) (fun h1 => ?_) (fun h1 => ?_)
    · rw [if_pos h1] at hf
      exact gz_EVu hE hf dX6_readOn_127
    · rw [if_neg h1] at hf
      refine gr_iload X dX6_readOn_23 6 rfl ?_
      refine gr_if_eq 127 X dX6_readOn_25 (by decide) (fun h2 => ?_) (fun h2 => ?_)
      · rw [if_pos h2] at hf
        exact gz_EVu hE hf dX6_readOn_127
      · rw [if_neg h2] at hf
        refine gr_iload X dX6_readOn_28 5 rfl ?_
        refine gr_aload_n X dX6_readOn_30 1 rfl rfl ?_
        refine gr_iload_n X dX6_readOn_31 3 rfl rfl ?_
        refine gr_aload_n X dX6_readOn_32 2 rfl rfl ?_
        refine gr_iload X dX6_readOn_33 7 rfl ?_
        obtain ⟨v3, M4, q5, hf⟩ := gz_bd2e hf
        refine gr_callI (asF := fun ad => [.ref (ad k1), .int x8]) [.int x8] X (c5_get hk1 q5) rfl wm_RX6_53 rfl (X.kd (gk_X5o hk1)).1 ((X.kd (gk_X5o hk1)).2 _ _ _ _) rfl (by decide) (by decide) rfl (Nat.le_of_ble_eq_true rfl) hc dX6_readOn_35 ?_
        obtain ⟨v6, M7, q8, hf⟩ := gz_bd2e hf
        refine gr_callI (asF := fun ad => [.ref (ad k0), .int x3, .int v3]) [.int x3, .int v3] X (c7_takersOf hk0 q8) rfl wm_RX6_58 rfl (X.kd (gk_X7o hk0)).1 ((X.kd (gk_X7o hk0)).2 _ _ _ _) rfl (by decide) (by decide) rfl (Nat.le_of_ble_eq_true rfl) hc dX6_readOn_38 ?_
        refine gr_iand X dX6_readOn_41 ?_
        obtain ⟨v9, ev9, hf⟩ := gz_lte hf
        refine gr_istore [(9, .int v9), (0, .ref (gx_ad x 69)), (1, .ref (gx_ad x k0)), (2, .ref (gx_ad x k1)), (3, .int x3), (5, .int x5), (6, .int x6), (7, .int x7), (8, .int x8)] X dX6_readOn_42 ev9 (by decide) rfl ?_
        refine gr_aload_n X dX6_readOn_44 2 rfl rfl ?_
        refine gr_iload_n X dX6_readOn_45 4 rfl rfl ?_
        refine gr_iload X dX6_readOn_46 0 rfl ?_
        obtain ⟨v10, M11, q12, hf⟩ := gz_bd2e hf
        refine gr_callI (asF := fun ad => [.ref (ad k0), .int x3, .int v9]) [.int x3, .int v9] X (c7_after hk0 q12) rfl wm_RX6_62 rfl (X.kd (gk_X7o hk0)).1 ((X.kd (gk_X7o hk0)).2 _ _ _ _) rfl (by decide) (by decide) rfl (Nat.le_of_ble_eq_true rfl) hc dX6_readOn_48 ?_
        refine gr_istore [(6, .int v10), (9, .int v9), (0, .ref (gx_ad x 69)), (1, .ref (gx_ad x k0)), (2, .ref (gx_ad x k1)), (3, .int x3), (5, .int x5), (7, .int x7), (8, .int x8)] X dX6_readOn_51 rfl (by decide) rfl ?_
        refine gr_aload_n X dX6_readOn_53 2 rfl rfl ?_
        refine gr_dup X dX6_readOn_54 rfl ?_
        refine gf6_4 X wf_RX6_27 dX6_readOn_55 ?_
        refine gr_iconst 1 X dX6_readOn_58 (by decide) ?_
        refine gr_iadd X dX6_readOn_59 ?_
        obtain ⟨M13, eM13, hf⟩ := gz_lte hf
        refine gp6_4 X wf_RX6_27 eM13 dX6_readOn_60 ?_
        refine gr_iload_n X dX6_readOn_63 5 rfl rfl ?_
        refine gr_iload X dX6_readOn_64 1 rfl ?_
        obtain ⟨v14, M15, q16, hf⟩ := gz_bd2e hf
        refine gr_callSI (asF := fun _ => [.int x3, .int v9]) [.int x3, .int v9] X (c6_keyOf q16) rfl wm_RX6_65 rfl (by decide) (by decide) rfl (Nat.le_of_ble_eq_true rfl) hc dX6_readOn_66 ?_
        refine gr_istore [(10, .int v14), (6, .int v10), (9, .int v9), (0, .ref (gx_ad x 69)), (1, .ref (gx_ad x k0)), (2, .ref (gx_ad x k1)), (3, .int x3), (5, .int x5), (7, .int x7), (8, .int x8)] X dX6_readOn_69 rfl (by decide) rfl ?_
        refine gr_iload X dX6_readOn_71 2 rfl ?_
        refine gr_if_eq 94 X dX6_readOn_73 (by decide) (fun h17 => ?_) (fun h17 => ?_)
        · rw [if_pos h17] at hf
          refine gr_iconst 0 X dX6_readOn_94 (by decide) ?_
          refine gr_sub (lv' := [(0, .ref (gx_ad x 69)), (1, .ref (gx_ad x k0)), (2, .ref (gx_ad x k1)), (3, .int x3), (5, .int x5), (6, .int v10), (8, .int x8), (10, .int v14)]) [3, 4, 5, 6, 7, 1, 9, 0] rfl ?_
          exact b6_readOn_95 X hc hE hk0 hk1 ih _ _ _ _ _ _ _ hf
        · rw [if_neg h17] at hf
          refine gr_aload_n X dX6_readOn_76 3 rfl rfl ?_
          refine gr_iload X dX6_readOn_77 9 rfl ?_
          refine gr_iconst 1 X dX6_readOn_79 (by decide) ?_
          refine gr_iadd X dX6_readOn_80 ?_
          refine gr_iload X dX6_readOn_81 0 rfl ?_
          obtain ⟨v18, M19, q20, hf⟩ := gz_bd2e hf
          refine gr_callI (asF := fun ad => [.ref (ad 69), .int (x8 + 1), .int v14]) [.int (x8 + 1), .int v14] X (c6_indexOf q20) rfl wm_RX6_85 rfl (X.kd gk_C69).1 ((X.kd gk_C69).2 _ _ _ _) rfl (by decide) (by decide) rfl (Nat.le_of_ble_eq_true rfl) hc dX6_readOn_83 ?_
          refine gr_iconst (-1) X dX6_readOn_86 (by decide) ?_
          refine gr_icmp_ne 94 X dX6_readOn_87 (by decide) (fun h21 => ?_) (fun h21 => ?_)
          · rw [if_pos h21] at hf
            refine gr_iconst 1 X dX6_readOn_90 (by decide) ?_
            refine gr_goto 95 X dX6_readOn_91 (by decide) ?_
            refine gr_sub (lv' := [(0, .ref (gx_ad x 69)), (1, .ref (gx_ad x k0)), (2, .ref (gx_ad x k1)), (3, .int x3), (5, .int x5), (6, .int v10), (8, .int x8), (10, .int v14)]) [3, 4, 5, 6, 7, 1, 9, 0] rfl ?_
            exact b6_readOn_95 X hc hE hk0 hk1 ih _ _ _ _ _ _ _ hf
          · rw [if_neg h21] at hf
            refine gr_iconst 0 X dX6_readOn_94 (by decide) ?_
            refine gr_sub (lv' := [(0, .ref (gx_ad x 69)), (1, .ref (gx_ad x k0)), (2, .ref (gx_ad x k1)), (3, .int x3), (5, .int x5), (6, .int v10), (8, .int x8), (10, .int v14)]) [3, 4, 5, 6, 7, 1, 9, 0] rfl ?_
            exact b6_readOn_95 X hc hE hk0 hk1 ih _ _ _ _ _ _ _ hf

def f6_readOn (k0 : Nat) (k1 : Nat) (a2 : Int32) (a3 : Int32) (a4 : Int32) (M0 : gz_M) : Option (gz_M) := gz_bd2 (f7_atFirst k0 a2 M0) fun v1 M2 => f6_readOn_14 k0 k1 gz_FU a2 a4 v1 1 a3 M2
set_option maxRecDepth 100000 in
theorem c6_readOn {pf : Nat → Bool} {l : Launch} {M0 M' : gz_M} {k0 : Nat} {k1 : Nat} {a2 : Int32} {a3 : Int32} {a4 : Int32} (hk0 : gz_IsX7 pf k0) (hk1 : gz_IsX5 pf k1) (hf : f6_readOn k0 k1 a2 a3 a4 M0 = some M') : gz_CV l gz_cfC yX6_readOn cX6_readOn 11 3 (fun ad => [.ref (ad 69), .ref (ad k0), .ref (ad k1), .int a2, .int a3, .int a4]) pf M0 M' := by
  refine gz_ofV (by decide +kernel) (fun _ => Nat.le_of_ble_eq_true rfl) (fun x X hc hE => ?_)
  show gz_At x 0 [(0, .ref (gx_ad x 69)), (1, .ref (gx_ad x k0)), (2, .ref (gx_ad x k1)), (3, .int a2), (4, .int a3), (5, .int a4)] [] M0
  unfold f6_readOn at hf
  refine gr_aload_n X dX6_readOn_0 1 rfl rfl ?_
  refine gr_iload_n X dX6_readOn_1 3 rfl rfl ?_
  obtain ⟨v1, M2, q3, hf⟩ := gz_bd2e hf
  refine gr_callI (asF := fun ad => [.ref (ad k0), .int a2]) [.int a2] X (c7_atFirst hk0 q3) rfl wm_RX6_41 rfl (X.kd (gk_X7o hk0)).1 ((X.kd (gk_X7o hk0)).2 _ _ _ _) rfl (by decide) (by decide) rfl (Nat.le_of_ble_eq_true rfl) hc dX6_readOn_2 ?_
  refine gr_istore [(6, .int v1), (0, .ref (gx_ad x 69)), (1, .ref (gx_ad x k0)), (2, .ref (gx_ad x k1)), (3, .int a2), (4, .int a3), (5, .int a4)] X dX6_readOn_5 rfl (by decide) rfl ?_
  refine gr_iconst 1 X dX6_readOn_7 (by decide) ?_
  refine gr_istore [(7, .int 1), (6, .int v1), (0, .ref (gx_ad x 69)), (1, .ref (gx_ad x k0)), (2, .ref (gx_ad x k1)), (3, .int a2), (4, .int a3), (5, .int a4)] X dX6_readOn_8 rfl (by decide) rfl ?_
  refine gr_iload X dX6_readOn_10 6 rfl ?_
  refine gr_istore [(8, .int a3), (7, .int 1), (6, .int v1), (0, .ref (gx_ad x 69)), (1, .ref (gx_ad x k0)), (2, .ref (gx_ad x k1)), (3, .int a2), (4, .int a3), (5, .int a4)] X dX6_readOn_12 rfl (by decide) rfl ?_
  refine gr_sub (lv' := [(0, .ref (gx_ad x 69)), (1, .ref (gx_ad x k0)), (2, .ref (gx_ad x k1)), (3, .int a2), (5, .int a4), (6, .int v1), (7, .int 1), (8, .int a3)]) [3, 4, 5, 6, 8, 2, 1, 0] rfl ?_
  exact b6_readOn_14 X hc hE hk0 hk1 _ _ _ _ _ _ _ hf

def f6_remember_44 (k0 : Nat) (k1 : Nat) (k2 : Nat) (c7 : Int32 → gz_M → Option (gz_M)) (x4 : Int32) (s0 : Int32) (M0 : gz_M) : Option (gz_M) := gz_ck (gz_inb x4 24) <| gz_ck (gz_inb x4 24) <| gz_bd (f6_readOn k0 k1 (M0.1 (k2 + 6) x4.toNatClampNeg) (M0.1 (k2 + 2) x4.toNatClampNeg) s0 M0) fun M3 => gz_lt (x4 + 1) fun v5 => c7 v5 M3
theorem b6_remember_44 {x : gz_X} {pf : Nat → Bool} {l : Launch} {M' : gz_M} (X : gz_Ok x cX6_remember RX6 6 4 gz_cfC pf l) (hc : gx_cells x ≤ (gx_R x).cells ∧ gx_slots x ≤ (gx_R x).slots) (hE : gz_EV x cX6_remember M') {k0 : Nat} {k1 : Nat} {k2 : Nat} (hk0 : gz_IsX7 pf k0) (hk1 : gz_IsX5 pf k1) (hk2 : gz_IsX2 pf k2) {c7 : Int32 → gz_M → Option (gz_M)} (hc7 : ∀ (x4 : Int32) (M0 : gz_M), c7 x4 M0 = some M' → gz_At x 7 [(0, .ref (gx_ad x 69)), (1, .ref (gx_ad x k0)), (2, .ref (gx_ad x k1)), (3, .ref (gx_ad x k2)), (4, .int x4)] [] M0) : ∀ (x4 : Int32) (s0 : Int32) (M0 : gz_M), f6_remember_44 k0 k1 k2 c7 x4 s0 M0 = some M' → gz_At x 44 [(0, .ref (gx_ad x 69)), (1, .ref (gx_ad x k0)), (2, .ref (gx_ad x k1)), (3, .ref (gx_ad x k2)), (4, .int x4)] [.int s0] M0 := by
  intro x4 s0 M0  hf
  rw [f6_remember_44] at hf
  refine gr_istore [(5, .int s0), (0, .ref (gx_ad x 69)), (1, .ref (gx_ad x k0)), (2, .ref (gx_ad x k1)), (3, .ref (gx_ad x k2)), (4, .int x4)] X dX6_remember_44 rfl (by decide) rfl ?_
  refine gr_aload_n X dX6_remember_46 1 rfl rfl ?_
  refine gr_aload_n X dX6_remember_47 2 rfl rfl ?_
  refine gr_aload_n X dX6_remember_48 3 rfl rfl ?_
  refine gr_aload_n X dX6_remember_49 4 rfl rfl ?_
  refine gf2_7 X (gk_X2o hk2) wf_RX6_38 dX6_remember_50 ?_
  refine gr_iload X dX6_remember_53 5 rfl ?_
  obtain ⟨h1, hf⟩ := gz_cke hf
  refine gr_iaload X (gk_X26 hk2) (gz_inp h1) dX6_remember_55 ?_
  refine gr_aload_n X dX6_remember_56 4 rfl rfl ?_
  refine gf2_3 X (gk_X2o hk2) wf_RX6_47 dX6_remember_57 ?_
  refine gr_iload X dX6_remember_60 5 rfl ?_
  obtain ⟨h2, hf⟩ := gz_cke hf
  refine gr_iaload X (gk_X22 hk2) (gz_inp h2) dX6_remember_62 ?_
  refine gr_iload X dX6_remember_63 0 rfl ?_
  obtain ⟨M3, q4, hf⟩ := gz_bde hf
  refine gr_callV (asF := fun ad => [.ref (ad 69), .ref (ad k0), .ref (ad k1), .int (M0.1 (k2 + 6) x4.toNatClampNeg), .int (M0.1 (k2 + 2) x4.toNatClampNeg), .int s0]) [.ref (gx_ad x k0), .ref (gx_ad x k1), .int (M0.1 (k2 + 6) x4.toNatClampNeg), .int (M0.1 (k2 + 2) x4.toNatClampNeg), .int s0] X (c6_readOn hk0 hk1 q4) rfl wm_RX6_78 rfl (X.kd gk_C69).1 ((X.kd gk_C69).2 _ _ _ _) rfl (by decide) (by decide) rfl (Nat.le_of_ble_eq_true rfl) hc dX6_remember_65 ?_
  obtain ⟨v5, ev5, hf⟩ := gz_lte hf
  refine gr_iinc 1 [(4, .int v5), (5, .int s0), (0, .ref (gx_ad x 69)), (1, .ref (gx_ad x k0)), (2, .ref (gx_ad x k1)), (3, .ref (gx_ad x k2))] X dX6_remember_68 5 rfl (by decide) ev5 (by decide) rfl ?_
  refine gr_goto 7 X dX6_remember_71 (by decide) ?_
  refine gr_sub (lv' := [(0, .ref (gx_ad x 69)), (1, .ref (gx_ad x k0)), (2, .ref (gx_ad x k1)), (3, .ref (gx_ad x k2)), (4, .int v5)]) [2, 3, 4, 5, 0] rfl ?_
  exact hc7 _ _ hf

def f6_remember_7 (k0 : Nat) (k1 : Nat) (k2 : Nat) : Nat → Int32 → gz_M → Option (gz_M)
  | 0, _, _ => none
  | n + 1, x4, M0 => if (M0.1 k2 0) ≤ x4 then (some M0) else (gz_ck (gz_inb x4 24) <| if (M0.1 (k2 + 1) x4.toNatClampNeg) = (-1) then (gz_ck (gz_inb x4 24) <| f6_remember_44 k0 k1 k2 (f6_remember_7 k0 k1 k2 n) x4 (M0.1 (k2 + 2) x4.toNatClampNeg) M0) else (gz_ck (gz_inb x4 24) <| f6_remember_44 k0 k1 k2 (f6_remember_7 k0 k1 k2 n) x4 (M0.1 (k2 + 3) x4.toNatClampNeg) M0))
theorem b6_remember_7 {x : gz_X} {pf : Nat → Bool} {l : Launch} {M' : gz_M} (X : gz_Ok x cX6_remember RX6 6 4 gz_cfC pf l) (hc : gx_cells x ≤ (gx_R x).cells ∧ gx_slots x ≤ (gx_R x).slots) (hE : gz_EV x cX6_remember M') {k0 : Nat} {k1 : Nat} {k2 : Nat} (hk0 : gz_IsX7 pf k0) (hk1 : gz_IsX5 pf k1) (hk2 : gz_IsX2 pf k2) : ∀ (n : Nat) (x4 : Int32) (M0 : gz_M), f6_remember_7 k0 k1 k2 n x4 M0 = some M' → gz_At x 7 [(0, .ref (gx_ad x 69)), (1, .ref (gx_ad x k0)), (2, .ref (gx_ad x k1)), (3, .ref (gx_ad x k2)), (4, .int x4)] [] M0 := by
  intro n
  induction n with
  | zero =>
    intro x4 M0  hf
    rw [f6_remember_7] at hf
    cases hf
  | succ n ih =>
    intro x4 M0  hf
    rw [f6_remember_7] at hf
    refine gr_iload X dX6_remember_7 4 rfl ?_
    refine gr_aload_n X dX6_remember_9 3 rfl rfl ?_
    refine gf2_0 X (gk_X2o hk2) wf_RX6_33 dX6_remember_10 ?_
    refine gr_icmp_ge 74 X dX6_remember_13 (by decide) (fun h1 => ?_) (fun h1 => ?_)
    · rw [if_pos h1] at hf
      exact gz_EVu hE hf dX6_remember_74
    · rw [if_neg h1] at hf
      refine gr_aload_n X dX6_remember_16 3 rfl rfl ?_
      refine gf2_2 X (gk_X2o hk2) wf_RX6_72 dX6_remember_17 ?_
      refine gr_iload X dX6_remember_20 4 rfl ?_
      obtain ⟨h2, hf⟩ := gz_cke hf
      refine gr_iaload X (gk_X21 hk2) (gz_inp h2) dX6_remember_22 ?_
      refine gr_iconst (-1) X dX6_remember_23 (by decide) ?_
      refine gr_icmp_ne 37 X dX6_remember_24 (by decide) (fun h3 => ?_) (fun h3 => ?_)
      · rw [if_pos h3] at hf
        refine gr_aload_n X dX6_remember_27 3 rfl rfl ?_
        refine gf2_3 X (gk_X2o hk2) wf_RX6_47 dX6_remember_28 ?_
        refine gr_iload X dX6_remember_31 4 rfl ?_
        obtain ⟨h4, hf⟩ := gz_cke hf
        refine gr_iaload X (gk_X22 hk2) (gz_inp h4) dX6_remember_33 ?_
        refine gr_goto 44 X dX6_remember_34 (by decide) ?_
        exact b6_remember_44 X hc hE hk0 hk1 hk2 ih _ _ _ hf
      · rw [if_neg h3] at hf
        refine gr_aload_n X dX6_remember_37 3 rfl rfl ?_
        refine gf2_4 X (gk_X2o hk2) wf_RX6_75 dX6_remember_38 ?_
        refine gr_iload X dX6_remember_41 4 rfl ?_
        obtain ⟨h5, hf⟩ := gz_cke hf
        refine gr_iaload X (gk_X23 hk2) (gz_inp h5) dX6_remember_43 ?_
        exact b6_remember_44 X hc hE hk0 hk1 hk2 ih _ _ _ hf

def f6_remember (k0 : Nat) (k1 : Nat) (k2 : Nat) (M0 : gz_M) : Option (gz_M) := gz_bd (f6_clear M0) fun M1 => f6_remember_7 k0 k1 k2 gz_FU 0 M1
set_option maxRecDepth 100000 in
theorem c6_remember {pf : Nat → Bool} {l : Launch} {M0 M' : gz_M} {k0 : Nat} {k1 : Nat} {k2 : Nat} (hk0 : gz_IsX7 pf k0) (hk1 : gz_IsX5 pf k1) (hk2 : gz_IsX2 pf k2) (hf : f6_remember k0 k1 k2 M0 = some M') : gz_CV l gz_cfC yX6_remember cX6_remember 6 4 (fun ad => [.ref (ad 69), .ref (ad k0), .ref (ad k1), .ref (ad k2)]) pf M0 M' := by
  refine gz_ofV (by decide +kernel) (fun _ => Nat.le_of_ble_eq_true rfl) (fun x X hc hE => ?_)
  show gz_At x 0 [(0, .ref (gx_ad x 69)), (1, .ref (gx_ad x k0)), (2, .ref (gx_ad x k1)), (3, .ref (gx_ad x k2))] [] M0
  unfold f6_remember at hf
  refine gr_aload_n X dX6_remember_0 0 rfl rfl ?_
  obtain ⟨M1, q2, hf⟩ := gz_bde hf
  refine gr_callV (asF := fun ad => [.ref (ad 69)]) [] X (c6_clear q2) rfl wm_RX6_30 rfl (X.kd gk_C69).1 ((X.kd gk_C69).2 _ _ _ _) rfl (by decide) (by decide) rfl (Nat.le_of_ble_eq_true rfl) hc dX6_remember_1 ?_
  refine gr_iconst 0 X dX6_remember_4 (by decide) ?_
  refine gr_istore [(4, .int 0), (0, .ref (gx_ad x 69)), (1, .ref (gx_ad x k0)), (2, .ref (gx_ad x k1)), (3, .ref (gx_ad x k2))] X dX6_remember_5 rfl (by decide) rfl ?_
  refine gr_sub (lv' := [(0, .ref (gx_ad x 69)), (1, .ref (gx_ad x k0)), (2, .ref (gx_ad x k1)), (3, .ref (gx_ad x k2)), (4, .int 0)]) [1, 2, 3, 4, 0] rfl ?_
  exact b6_remember_7 X hc hE hk0 hk1 hk2 _ _ _ hf

def f6_repeated_12 (c4 : Int32 → Int32 → gz_M → Option (Int32 × gz_M)) : Nat → Int32 → Int32 → Int32 → gz_M → Option (Int32 × gz_M)
  | 0, _, _, _, _ => none
  | n + 1, x1, x2, x3, M0 => gz_ck (gz_inb x2 25) <| if (M0.1 122 x2.toNatClampNeg) ≤ x3 then (gz_lt (x2 + 1) fun v3 => c4 x1 v3 M0) else (gz_ck (gz_inb x2 25) <| gz_ck (gz_inb x3 24) <| if (M0.1 (96 + 1 + x2.toNatClampNeg) x3.toNatClampNeg) ≤ 1 then (gz_lt (x1 + 0) fun v7 => gz_lt (x3 + 1) fun v8 => f6_repeated_12 c4 n v7 x2 v8 M0) else (gz_lt (x1 + 1) fun v9 => gz_lt (x3 + 1) fun v10 => f6_repeated_12 c4 n v9 x2 v10 M0))
theorem b6_repeated_12 {x : gz_X} {pf : Nat → Bool} {l : Launch} {r : Int32} {M' : gz_M} (X : gz_Ok x cX6_repeated RX6 4 1 gz_cfC pf l) (hc : gx_cells x ≤ (gx_R x).cells ∧ gx_slots x ≤ (gx_R x).slots) (hE : gz_EI x cX6_repeated .int r M') {c4 : Int32 → Int32 → gz_M → Option (Int32 × gz_M)} (hc4 : ∀ (x1 : Int32) (x2 : Int32) (M0 : gz_M), c4 x1 x2 M0 = some (r, M') → gz_At x 4 [(0, .ref (gx_ad x 69)), (1, .int x1), (2, .int x2)] [] M0) : ∀ (n : Nat) (x1 : Int32) (x2 : Int32) (x3 : Int32) (M0 : gz_M), f6_repeated_12 c4 n x1 x2 x3 M0 = some (r, M') → gz_At x 12 [(0, .ref (gx_ad x 69)), (1, .int x1), (2, .int x2), (3, .int x3)] [] M0 := by
  intro n
  induction n with
  | zero =>
    intro x1 x2 x3 M0  hf
    rw [f6_repeated_12] at hf
    cases hf
  | succ n ih =>
    intro x1 x2 x3 M0  hf
    rw [f6_repeated_12] at hf
    refine gr_iload_n X dX6_repeated_12 3 rfl rfl ?_
    refine gr_aload_n X dX6_repeated_13 0 rfl rfl ?_
    refine gf6_2 X wf_RX6_19 dX6_repeated_14 ?_
    refine gr_iload_n X dX6_repeated_17 2 rfl rfl ?_
    obtain ⟨h1, hf⟩ := gz_cke hf
    refine gr_iaload X gk_C122 (gz_inp h1) dX6_repeated_18 ?_
    refine gr_icmp_ge 48 X dX6_repeated_19 (by decide) (fun h2 => ?_) (fun h2 => ?_)
    · rw [if_pos h2] at hf
      obtain ⟨v3, ev3, hf⟩ := gz_lte hf
      refine gr_iinc 1 [(2, .int v3), (0, .ref (gx_ad x 69)), (1, .int x1), (3, .int x3)] X dX6_repeated_48 2 rfl (by decide) ev3 (by decide) rfl ?_
      refine gr_goto 4 X dX6_repeated_51 (by decide) ?_
      refine gr_sub (lv' := [(0, .ref (gx_ad x 69)), (1, .int x1), (2, .int v3)]) [1, 2, 0] rfl ?_
      exact hc4 _ _ _ hf
    · rw [if_neg h2] at hf
      refine gr_iload_n X dX6_repeated_22 1 rfl rfl ?_
      refine gr_aload_n X dX6_repeated_23 0 rfl rfl ?_
      refine gf6_1 X wf_RX6_16 dX6_repeated_24 ?_
      refine gr_iload_n X dX6_repeated_27 2 rfl rfl ?_
      obtain ⟨h4, hf⟩ := gz_cke hf
      refine gr_aaload X gk_C96 (gz_inp h4) dX6_repeated_28 ?_
      refine gr_iload_n X dX6_repeated_29 3 rfl rfl ?_
      obtain ⟨h5, hf⟩ := gz_cke hf
      refine gr_iaload X (gk_X627r (gz_inl (gz_inp h4))) (gz_inp h5) dX6_repeated_30 ?_
      refine gr_iconst 1 X dX6_repeated_31 (by decide) ?_
      refine gr_icmp_le 39 X dX6_repeated_32 (by decide) (fun h6 => ?_) (fun h6 => ?_)
      · rw [if_pos h6] at hf
        refine gr_iconst 0 X dX6_repeated_39 (by decide) ?_
        refine gr_iadd X dX6_repeated_40 ?_
        obtain ⟨v7, ev7, hf⟩ := gz_lte hf
        refine gr_istore_n [(1, .int v7), (0, .ref (gx_ad x 69)), (2, .int x2), (3, .int x3)] X dX6_repeated_41 ev7 rfl (by decide) rfl ?_
        obtain ⟨v8, ev8, hf⟩ := gz_lte hf
        refine gr_iinc 1 [(3, .int v8), (1, .int v7), (0, .ref (gx_ad x 69)), (2, .int x2)] X dX6_repeated_42 3 rfl (by decide) ev8 (by decide) rfl ?_
        refine gr_goto 12 X dX6_repeated_45 (by decide) ?_
        refine gr_sub (lv' := [(0, .ref (gx_ad x 69)), (1, .int v7), (2, .int x2), (3, .int v8)]) [2, 1, 3, 0] rfl ?_
        exact ih _ _ _ _ hf
      · rw [if_neg h6] at hf
        refine gr_iconst 1 X dX6_repeated_35 (by decide) ?_
        refine gr_goto 40 X dX6_repeated_36 (by decide) ?_
        refine gr_iadd X dX6_repeated_40 ?_
        obtain ⟨v9, ev9, hf⟩ := gz_lte hf
        refine gr_istore_n [(1, .int v9), (0, .ref (gx_ad x 69)), (2, .int x2), (3, .int x3)] X dX6_repeated_41 ev9 rfl (by decide) rfl ?_
        obtain ⟨v10, ev10, hf⟩ := gz_lte hf
        refine gr_iinc 1 [(3, .int v10), (1, .int v9), (0, .ref (gx_ad x 69)), (2, .int x2)] X dX6_repeated_42 3 rfl (by decide) ev10 (by decide) rfl ?_
        refine gr_goto 12 X dX6_repeated_45 (by decide) ?_
        refine gr_sub (lv' := [(0, .ref (gx_ad x 69)), (1, .int v9), (2, .int x2), (3, .int v10)]) [2, 1, 3, 0] rfl ?_
        exact ih _ _ _ _ hf

def f6_repeated_4 : Nat → Int32 → Int32 → gz_M → Option (Int32 × gz_M)
  | 0, _, _, _ => none
  | n + 1, x1, x2, M0 => if 24 < x2 then (some (x1, M0)) else (f6_repeated_12 (f6_repeated_4 n) gz_FU x1 x2 0 M0)
theorem b6_repeated_4 {x : gz_X} {pf : Nat → Bool} {l : Launch} {r : Int32} {M' : gz_M} (X : gz_Ok x cX6_repeated RX6 4 1 gz_cfC pf l) (hc : gx_cells x ≤ (gx_R x).cells ∧ gx_slots x ≤ (gx_R x).slots) (hE : gz_EI x cX6_repeated .int r M') : ∀ (n : Nat) (x1 : Int32) (x2 : Int32) (M0 : gz_M), f6_repeated_4 n x1 x2 M0 = some (r, M') → gz_At x 4 [(0, .ref (gx_ad x 69)), (1, .int x1), (2, .int x2)] [] M0 := by
  intro n
  induction n with
  | zero =>
    intro x1 x2 M0  hf
    rw [f6_repeated_4] at hf
    cases hf
  | succ n ih =>
    intro x1 x2 M0  hf
    rw [f6_repeated_4] at hf
    refine gr_iload_n X dX6_repeated_4 2 rfl rfl ?_
    refine gr_bipush 24 X dX6_repeated_5 (by decide) ?_
    refine gr_icmp_gt 54 X dX6_repeated_7 (by decide) (fun h1 => ?_) (fun h1 => ?_)
    · rw [if_pos h1] at hf
      refine gr_iload_n X dX6_repeated_54 1 rfl rfl ?_
      exact gz_EIu hE hf rfl dX6_repeated_55
    · rw [if_neg h1] at hf
      refine gr_iconst 0 X dX6_repeated_10 (by decide) ?_
      refine gr_istore_n [(3, .int 0), (0, .ref (gx_ad x 69)), (1, .int x1), (2, .int x2)] X dX6_repeated_11 rfl rfl (by decide) rfl ?_
      refine gr_sub (lv' := [(0, .ref (gx_ad x 69)), (1, .int x1), (2, .int x2), (3, .int 0)]) [1, 2, 3, 0] rfl ?_
      exact b6_repeated_12 X hc hE ih _ _ _ _ _ hf

def f6_repeated (M0 : gz_M) : Option (Int32 × gz_M) := f6_repeated_4 gz_FU 0 0 M0
set_option maxRecDepth 100000 in
theorem c6_repeated {pf : Nat → Bool} {l : Launch} {r : Int32} {M0 M' : gz_M} (hf : f6_repeated M0 = some (r, M')) : gz_CI l gz_cfC yX6_repeated cX6_repeated 4 1 .int (fun ad => [.ref (ad 69)]) pf M0 r M' := by
  refine gz_ofI (by decide +kernel) (fun _ => Nat.le_of_ble_eq_true rfl) (fun x X hc hE => ?_)
  show gz_At x 0 [(0, .ref (gx_ad x 69))] [] M0
  unfold f6_repeated at hf
  refine gr_iconst 0 X dX6_repeated_0 (by decide) ?_
  refine gr_istore_n [(1, .int 0), (0, .ref (gx_ad x 69))] X dX6_repeated_1 rfl rfl (by decide) rfl ?_
  refine gr_iconst 0 X dX6_repeated_2 (by decide) ?_
  refine gr_istore_n [(2, .int 0), (1, .int 0), (0, .ref (gx_ad x 69))] X dX6_repeated_3 rfl rfl (by decide) rfl ?_
  refine gr_sub (lv' := [(0, .ref (gx_ad x 69)), (1, .int 0), (2, .int 0)]) [2, 1, 0] rfl ?_
  exact b6_repeated_4 X hc hE _ _ _ _ hf

def f6_mostTimes_12 (c4 : Int32 → Int32 → gz_M → Option (Int32 × gz_M)) : Nat → Int32 → Int32 → Int32 → gz_M → Option (Int32 × gz_M)
  | 0, _, _, _, _ => none
  | n + 1, x1, x2, x3, M0 => gz_ck (gz_inb x2 25) <| if (M0.1 122 x2.toNatClampNeg) ≤ x3 then (gz_lt (x2 + 1) fun v3 => c4 x1 v3 M0) else (gz_ck (gz_inb x2 25) <| gz_ck (gz_inb x3 24) <| gz_lt (gz_max x1 (M0.1 (96 + 1 + x2.toNatClampNeg) x3.toNatClampNeg)) fun v6 => gz_lt (x3 + 1) fun v7 => f6_mostTimes_12 c4 n v6 x2 v7 M0)
theorem b6_mostTimes_12 {x : gz_X} {pf : Nat → Bool} {l : Launch} {r : Int32} {M' : gz_M} (X : gz_Ok x cX6_mostTimes RX6 4 1 gz_cfC pf l) (hc : gx_cells x ≤ (gx_R x).cells ∧ gx_slots x ≤ (gx_R x).slots) (hE : gz_EI x cX6_mostTimes .int r M') {c4 : Int32 → Int32 → gz_M → Option (Int32 × gz_M)} (hc4 : ∀ (x1 : Int32) (x2 : Int32) (M0 : gz_M), c4 x1 x2 M0 = some (r, M') → gz_At x 4 [(0, .ref (gx_ad x 69)), (1, .int x1), (2, .int x2)] [] M0) : ∀ (n : Nat) (x1 : Int32) (x2 : Int32) (x3 : Int32) (M0 : gz_M), f6_mostTimes_12 c4 n x1 x2 x3 M0 = some (r, M') → gz_At x 12 [(0, .ref (gx_ad x 69)), (1, .int x1), (2, .int x2), (3, .int x3)] [] M0 := by
  intro n
  induction n with
  | zero =>
    intro x1 x2 x3 M0  hf
    rw [f6_mostTimes_12] at hf
    cases hf
  | succ n ih =>
    intro x1 x2 x3 M0  hf
    rw [f6_mostTimes_12] at hf
    refine gr_iload_n X dX6_mostTimes_12 3 rfl rfl ?_
    refine gr_aload_n X dX6_mostTimes_13 0 rfl rfl ?_
    refine gf6_2 X wf_RX6_19 dX6_mostTimes_14 ?_
    refine gr_iload_n X dX6_mostTimes_17 2 rfl rfl ?_
    obtain ⟨h1, hf⟩ := gz_cke hf
    refine gr_iaload X gk_C122 (gz_inp h1) dX6_mostTimes_18 ?_
    refine gr_icmp_ge 41 X dX6_mostTimes_19 (by decide) (fun h2 => ?_) (fun h2 => ?_)
    · rw [if_pos h2] at hf
      obtain ⟨v3, ev3, hf⟩ := gz_lte hf
      refine gr_iinc 1 [(2, .int v3), (0, .ref (gx_ad x 69)), (1, .int x1), (3, .int x3)] X dX6_mostTimes_41 2 rfl (by decide) ev3 (by decide) rfl ?_
      refine gr_goto 4 X dX6_mostTimes_44 (by decide) ?_
      refine gr_sub (lv' := [(0, .ref (gx_ad x 69)), (1, .int x1), (2, .int v3)]) [1, 2, 0] rfl ?_
      exact hc4 _ _ _ hf
    · rw [if_neg h2] at hf
      refine gr_iload_n X dX6_mostTimes_22 1 rfl rfl ?_
      refine gr_aload_n X dX6_mostTimes_23 0 rfl rfl ?_
      refine gf6_1 X wf_RX6_16 dX6_mostTimes_24 ?_
      refine gr_iload_n X dX6_mostTimes_27 2 rfl rfl ?_
      obtain ⟨h4, hf⟩ := gz_cke hf
      refine gr_aaload X gk_C96 (gz_inp h4) dX6_mostTimes_28 ?_
      refine gr_iload_n X dX6_mostTimes_29 3 rfl rfl ?_
      obtain ⟨h5, hf⟩ := gz_cke hf
      refine gr_iaload X (gk_X627r (gz_inl (gz_inp h4))) (gz_inp h5) dX6_mostTimes_30 ?_
      refine gr_mmax X (by decide) wl_RX6_88 hc (Nat.le_of_ble_eq_true rfl) dX6_mostTimes_31 ?_
      obtain ⟨v6, ev6, hf⟩ := gz_lte hf
      refine gr_istore_n [(1, .int v6), (0, .ref (gx_ad x 69)), (2, .int x2), (3, .int x3)] X dX6_mostTimes_34 ev6 rfl (by decide) rfl ?_
      obtain ⟨v7, ev7, hf⟩ := gz_lte hf
      refine gr_iinc 1 [(3, .int v7), (1, .int v6), (0, .ref (gx_ad x 69)), (2, .int x2)] X dX6_mostTimes_35 3 rfl (by decide) ev7 (by decide) rfl ?_
      refine gr_goto 12 X dX6_mostTimes_38 (by decide) ?_
      refine gr_sub (lv' := [(0, .ref (gx_ad x 69)), (1, .int v6), (2, .int x2), (3, .int v7)]) [2, 1, 3, 0] rfl ?_
      exact ih _ _ _ _ hf

def f6_mostTimes_4 : Nat → Int32 → Int32 → gz_M → Option (Int32 × gz_M)
  | 0, _, _, _ => none
  | n + 1, x1, x2, M0 => if 24 < x2 then (some (x1, M0)) else (f6_mostTimes_12 (f6_mostTimes_4 n) gz_FU x1 x2 0 M0)
theorem b6_mostTimes_4 {x : gz_X} {pf : Nat → Bool} {l : Launch} {r : Int32} {M' : gz_M} (X : gz_Ok x cX6_mostTimes RX6 4 1 gz_cfC pf l) (hc : gx_cells x ≤ (gx_R x).cells ∧ gx_slots x ≤ (gx_R x).slots) (hE : gz_EI x cX6_mostTimes .int r M') : ∀ (n : Nat) (x1 : Int32) (x2 : Int32) (M0 : gz_M), f6_mostTimes_4 n x1 x2 M0 = some (r, M') → gz_At x 4 [(0, .ref (gx_ad x 69)), (1, .int x1), (2, .int x2)] [] M0 := by
  intro n
  induction n with
  | zero =>
    intro x1 x2 M0  hf
    rw [f6_mostTimes_4] at hf
    cases hf
  | succ n ih =>
    intro x1 x2 M0  hf
    rw [f6_mostTimes_4] at hf
    refine gr_iload_n X dX6_mostTimes_4 2 rfl rfl ?_
    refine gr_bipush 24 X dX6_mostTimes_5 (by decide) ?_
    refine gr_icmp_gt 47 X dX6_mostTimes_7 (by decide) (fun h1 => ?_) (fun h1 => ?_)
    · rw [if_pos h1] at hf
      refine gr_iload_n X dX6_mostTimes_47 1 rfl rfl ?_
      exact gz_EIu hE hf rfl dX6_mostTimes_48
    · rw [if_neg h1] at hf
      refine gr_iconst 0 X dX6_mostTimes_10 (by decide) ?_
      refine gr_istore_n [(3, .int 0), (0, .ref (gx_ad x 69)), (1, .int x1), (2, .int x2)] X dX6_mostTimes_11 rfl rfl (by decide) rfl ?_
      refine gr_sub (lv' := [(0, .ref (gx_ad x 69)), (1, .int x1), (2, .int x2), (3, .int 0)]) [1, 2, 3, 0] rfl ?_
      exact b6_mostTimes_12 X hc hE ih _ _ _ _ _ hf

def f6_mostTimes (M0 : gz_M) : Option (Int32 × gz_M) := f6_mostTimes_4 gz_FU 0 0 M0
set_option maxRecDepth 100000 in
theorem c6_mostTimes {pf : Nat → Bool} {l : Launch} {r : Int32} {M0 M' : gz_M} (hf : f6_mostTimes M0 = some (r, M')) : gz_CI l gz_cfC yX6_mostTimes cX6_mostTimes 4 1 .int (fun ad => [.ref (ad 69)]) pf M0 r M' := by
  refine gz_ofI (by decide +kernel) (fun _ => Nat.le_of_ble_eq_true rfl) (fun x X hc hE => ?_)
  show gz_At x 0 [(0, .ref (gx_ad x 69))] [] M0
  unfold f6_mostTimes at hf
  refine gr_iconst 0 X dX6_mostTimes_0 (by decide) ?_
  refine gr_istore_n [(1, .int 0), (0, .ref (gx_ad x 69))] X dX6_mostTimes_1 rfl rfl (by decide) rfl ?_
  refine gr_iconst 0 X dX6_mostTimes_2 (by decide) ?_
  refine gr_istore_n [(2, .int 0), (1, .int 0), (0, .ref (gx_ad x 69))] X dX6_mostTimes_3 rfl rfl (by decide) rfl ?_
  refine gr_sub (lv' := [(0, .ref (gx_ad x 69)), (1, .int 0), (2, .int 0)]) [2, 1, 0] rfl ?_
  exact b6_mostTimes_4 X hc hE _ _ _ _ hf

def f8_spread_51 (k0 : Nat) (c3 : Int32 → Int32 → Int32 → Int32 → gz_M → Option (gz_M)) (x2 : Int32) (x3 : Int32) (x4 : Int32) (x5 : Int32) (x6 : Int32) (s0 : Int32) (M0 : gz_M) : Option (gz_M) := if s0 = 0 then (gz_lt (x5 + 1) fun v2 => c3 x2 x3 x4 v2 M0) else (if 1024 ≤ (M0.1 123 3) then (gz_lt (x5 + 1) fun v4 => c3 x2 x3 x4 v4 M0) else (gz_ck (gz_inb x6 1024) <| gz_lt (gz_w M0 125 x6.toNatClampNeg ((gz_shl x3 3) ||| x5)) fun M6 => gz_ck (gz_inb (M6.1 123 3) 1024) <| gz_lt (gz_w M6 124 (M6.1 123 3).toNatClampNeg x6) fun M8 => gz_lt (gz_w M8 123 3 ((M8.1 123 3) + 1)) fun M9 => gz_lt (x5 + 1) fun v10 => c3 x2 x3 x4 v10 M9))
theorem b8_spread_51 {x : gz_X} {pf : Nat → Bool} {l : Launch} {M' : gz_M} (X : gz_Ok x cX8_spread RX8 8 3 gz_cfC pf l) (hc : gx_cells x ≤ (gx_R x).cells ∧ gx_slots x ≤ (gx_R x).slots) (hE : gz_EV x cX8_spread M') {k0 : Nat} (hk0 : gz_IsX7 pf k0) {c3 : Int32 → Int32 → Int32 → Int32 → gz_M → Option (gz_M)} (hc3 : ∀ (x2 : Int32) (x3 : Int32) (x4 : Int32) (x5 : Int32) (M0 : gz_M), c3 x2 x3 x4 x5 M0 = some M' → gz_At x 3 [(0, .ref (gx_ad x 123)), (1, .ref (gx_ad x k0)), (2, .int x2), (3, .int x3), (4, .int x4), (5, .int x5)] [] M0) : ∀ (x2 : Int32) (x3 : Int32) (x4 : Int32) (x5 : Int32) (x6 : Int32) (s0 : Int32) (M0 : gz_M), f8_spread_51 k0 c3 x2 x3 x4 x5 x6 s0 M0 = some M' → gz_At x 51 [(0, .ref (gx_ad x 123)), (1, .ref (gx_ad x k0)), (2, .int x2), (3, .int x3), (4, .int x4), (5, .int x5), (6, .int x6)] [.int s0] M0 := by
  intro x2 x3 x4 x5 x6 s0 M0  hf
  rw [f8_spread_51] at hf
  refine gr_istore [(7, .int s0), (0, .ref (gx_ad x 123)), (1, .ref (gx_ad x k0)), (2, .int x2), (3, .int x3), (4, .int x4), (5, .int x5), (6, .int x6)] X dX8_spread_51 rfl (by decide) rfl ?_
  refine gr_iload X dX8_spread_53 0 rfl ?_
  refine gr_if_eq 102 X dX8_spread_55 (by decide) (fun h1 => ?_) (fun h1 => ?_)
  · rw [if_pos h1] at hf
    obtain ⟨v2, ev2, hf⟩ := gz_lte hf
    refine gr_iinc 1 [(5, .int v2), (7, .int s0), (0, .ref (gx_ad x 123)), (1, .ref (gx_ad x k0)), (2, .int x2), (3, .int x3), (4, .int x4), (6, .int x6)] X dX8_spread_102 6 rfl (by decide) ev2 (by decide) rfl ?_
    refine gr_goto 3 X dX8_spread_105 (by decide) ?_
    refine gr_sub (lv' := [(0, .ref (gx_ad x 123)), (1, .ref (gx_ad x k0)), (2, .int x2), (3, .int x3), (4, .int x4), (5, .int v2)]) [2, 3, 4, 5, 6, 0] rfl ?_
    exact hc3 _ _ _ _ _ hf
  · rw [if_neg h1] at hf
    refine gr_aload_n X dX8_spread_58 1 rfl rfl ?_
    refine gf8_3 X wf_RX8_21 dX8_spread_59 ?_
    refine gr_sipush 1024 X dX8_spread_62 (by decide) ?_
    refine gr_icmp_ge 102 X dX8_spread_65 (by decide) (fun h3 => ?_) (fun h3 => ?_)
    · rw [if_pos h3] at hf
      obtain ⟨v4, ev4, hf⟩ := gz_lte hf
      refine gr_iinc 1 [(5, .int v4), (7, .int s0), (0, .ref (gx_ad x 123)), (1, .ref (gx_ad x k0)), (2, .int x2), (3, .int x3), (4, .int x4), (6, .int x6)] X dX8_spread_102 6 rfl (by decide) ev4 (by decide) rfl ?_
      refine gr_goto 3 X dX8_spread_105 (by decide) ?_
      refine gr_sub (lv' := [(0, .ref (gx_ad x 123)), (1, .ref (gx_ad x k0)), (2, .int x2), (3, .int x3), (4, .int x4), (5, .int v4)]) [2, 3, 4, 5, 6, 0] rfl ?_
      exact hc3 _ _ _ _ _ hf
    · rw [if_neg h3] at hf
      refine gr_aload_n X dX8_spread_68 1 rfl rfl ?_
      refine gf8_1 X wf_RX8_15 dX8_spread_69 ?_
      refine gr_iload X dX8_spread_72 7 rfl ?_
      refine gr_iload_n X dX8_spread_74 4 rfl rfl ?_
      refine gr_iconst 3 X dX8_spread_75 (by decide) ?_
      refine gr_ishl X dX8_spread_76 ?_
      refine gr_iload X dX8_spread_77 6 rfl ?_
      refine gr_ior X dX8_spread_79 ?_
      obtain ⟨h5, hf⟩ := gz_cke hf
      obtain ⟨M6, eM6, hf⟩ := gz_lte hf
      refine gr_iastore X gk_C125 (gz_inp h5) eM6 dX8_spread_80 ?_
      refine gr_aload_n X dX8_spread_81 1 rfl rfl ?_
      refine gf8_0 X wf_RX8_9 dX8_spread_82 ?_
      refine gr_aload_n X dX8_spread_85 1 rfl rfl ?_
      refine gf8_3 X wf_RX8_21 dX8_spread_86 ?_
      refine gr_iload X dX8_spread_89 7 rfl ?_
      obtain ⟨h7, hf⟩ := gz_cke hf
      obtain ⟨M8, eM8, hf⟩ := gz_lte hf
      refine gr_iastore X gk_C124 (gz_inp h7) eM8 dX8_spread_91 ?_
      refine gr_aload_n X dX8_spread_92 1 rfl rfl ?_
      refine gr_dup X dX8_spread_93 rfl ?_
      refine gf8_3 X wf_RX8_21 dX8_spread_94 ?_
      refine gr_iconst 1 X dX8_spread_97 (by decide) ?_
      refine gr_iadd X dX8_spread_98 ?_
      obtain ⟨M9, eM9, hf⟩ := gz_lte hf
      refine gp8_3 X wf_RX8_21 eM9 dX8_spread_99 ?_
      obtain ⟨v10, ev10, hf⟩ := gz_lte hf
      refine gr_iinc 1 [(5, .int v10), (7, .int s0), (0, .ref (gx_ad x 123)), (1, .ref (gx_ad x k0)), (2, .int x2), (3, .int x3), (4, .int x4), (6, .int x6)] X dX8_spread_102 6 rfl (by decide) ev10 (by decide) rfl ?_
      refine gr_goto 3 X dX8_spread_105 (by decide) ?_
      refine gr_sub (lv' := [(0, .ref (gx_ad x 123)), (1, .ref (gx_ad x k0)), (2, .int x2), (3, .int x3), (4, .int x4), (5, .int v10)]) [2, 3, 4, 5, 6, 0] rfl ?_
      exact hc3 _ _ _ _ _ hf

def f8_spread_3 (k0 : Nat) : Nat → Int32 → Int32 → Int32 → Int32 → gz_M → Option (gz_M)
  | 0, _, _, _, _, _ => none
  | n + 1, x2, x3, x4, x5, M0 => if 8 ≤ x5 then (some M0) else (gz_bd2 (f7_takersOf k0 x2 x5 M0) fun v2 M3 => gz_lt (x4 &&& v2) fun v5 => if v5 ≤ 0 then (f8_spread_51 k0 (f8_spread_3 k0 n) x2 x3 x4 x5 v5 0 M3) else (if 1024 ≤ v5 then (f8_spread_51 k0 (f8_spread_3 k0 n) x2 x3 x4 x5 v5 0 M3) else (gz_ck (gz_inb v5 1024) <| if (M3.1 125 v5.toNatClampNeg) = (-1) then (f8_spread_51 k0 (f8_spread_3 k0 n) x2 x3 x4 x5 v5 1 M3) else (f8_spread_51 k0 (f8_spread_3 k0 n) x2 x3 x4 x5 v5 0 M3))))
theorem b8_spread_3 {x : gz_X} {pf : Nat → Bool} {l : Launch} {M' : gz_M} (X : gz_Ok x cX8_spread RX8 8 3 gz_cfC pf l) (hc : gx_cells x ≤ (gx_R x).cells ∧ gx_slots x ≤ (gx_R x).slots) (hE : gz_EV x cX8_spread M') {k0 : Nat} (hk0 : gz_IsX7 pf k0) : ∀ (n : Nat) (x2 : Int32) (x3 : Int32) (x4 : Int32) (x5 : Int32) (M0 : gz_M), f8_spread_3 k0 n x2 x3 x4 x5 M0 = some M' → gz_At x 3 [(0, .ref (gx_ad x 123)), (1, .ref (gx_ad x k0)), (2, .int x2), (3, .int x3), (4, .int x4), (5, .int x5)] [] M0 := by
  intro n
  induction n with
  | zero =>
    intro x2 x3 x4 x5 M0  hf
    rw [f8_spread_3] at hf
    cases hf
  | succ n ih =>
    intro x2 x3 x4 x5 M0  hf
    rw [f8_spread_3] at hf
    refine gr_iload X dX8_spread_3 5 rfl ?_
    refine gr_bipush 8 X dX8_spread_5 (by decide) ?_
    refine gr_icmp_ge 108 X dX8_spread_7 (by decide) (fun h1 => ?_) (fun h1 => ?_)
    · rw [if_pos h1] at hf
      exact gz_EVu hE hf dX8_spread_108
    · rw [if_neg h1] at hf
      refine gr_iload X dX8_spread_10 4 rfl ?_
      refine gr_aload_n X dX8_spread_12 1 rfl rfl ?_
      refine gr_iload_n X dX8_spread_13 2 rfl rfl ?_
      refine gr_iload X dX8_spread_14 5 rfl ?_
      obtain ⟨v2, M3, q4, hf⟩ := gz_bd2e hf
      refine gr_callI (asF := fun ad => [.ref (ad k0), .int x2, .int x5]) [.int x2, .int x5] X (c7_takersOf hk0 q4) rfl wm_RX8_45 rfl (X.kd (gk_X7o hk0)).1 ((X.kd (gk_X7o hk0)).2 _ _ _ _) rfl (by decide) (by decide) rfl (Nat.le_of_ble_eq_true rfl) hc dX8_spread_16 ?_
      refine gr_iand X dX8_spread_19 ?_
      obtain ⟨v5, ev5, hf⟩ := gz_lte hf
      refine gr_istore [(6, .int v5), (0, .ref (gx_ad x 123)), (1, .ref (gx_ad x k0)), (2, .int x2), (3, .int x3), (4, .int x4), (5, .int x5)] X dX8_spread_20 ev5 (by decide) rfl ?_
      refine gr_iload X dX8_spread_22 0 rfl ?_
      refine gr_if_le 50 X dX8_spread_24 (by decide) (fun h6 => ?_) (fun h6 => ?_)
      · rw [if_pos h6] at hf
        refine gr_iconst 0 X dX8_spread_50 (by decide) ?_
        refine gr_sub (lv' := [(0, .ref (gx_ad x 123)), (1, .ref (gx_ad x k0)), (2, .int x2), (3, .int x3), (4, .int x4), (5, .int x5), (6, .int v5)]) [1, 2, 3, 4, 5, 6, 0] rfl ?_
        exact b8_spread_51 X hc hE hk0 ih _ _ _ _ _ _ _ hf
      · rw [if_neg h6] at hf
        refine gr_iload X dX8_spread_27 0 rfl ?_
        refine gr_sipush 1024 X dX8_spread_29 (by decide) ?_
        refine gr_icmp_ge 50 X dX8_spread_32 (by decide) (fun h7 => ?_) (fun h7 => ?_)
        · rw [if_pos h7] at hf
          refine gr_iconst 0 X dX8_spread_50 (by decide) ?_
          refine gr_sub (lv' := [(0, .ref (gx_ad x 123)), (1, .ref (gx_ad x k0)), (2, .int x2), (3, .int x3), (4, .int x4), (5, .int x5), (6, .int v5)]) [1, 2, 3, 4, 5, 6, 0] rfl ?_
          exact b8_spread_51 X hc hE hk0 ih _ _ _ _ _ _ _ hf
        · rw [if_neg h7] at hf
          refine gr_aload_n X dX8_spread_35 1 rfl rfl ?_
          refine gf8_1 X wf_RX8_15 dX8_spread_36 ?_
          refine gr_iload X dX8_spread_39 0 rfl ?_
          obtain ⟨h8, hf⟩ := gz_cke hf
          refine gr_iaload X gk_C125 (gz_inp h8) dX8_spread_41 ?_
          refine gr_iconst (-1) X dX8_spread_42 (by decide) ?_
          refine gr_icmp_ne 50 X dX8_spread_43 (by decide) (fun h9 => ?_) (fun h9 => ?_)
          · rw [if_pos h9] at hf
            refine gr_iconst 1 X dX8_spread_46 (by decide) ?_
            refine gr_goto 51 X dX8_spread_47 (by decide) ?_
            refine gr_sub (lv' := [(0, .ref (gx_ad x 123)), (1, .ref (gx_ad x k0)), (2, .int x2), (3, .int x3), (4, .int x4), (5, .int x5), (6, .int v5)]) [1, 2, 3, 4, 5, 6, 0] rfl ?_
            exact b8_spread_51 X hc hE hk0 ih _ _ _ _ _ _ _ hf
          · rw [if_neg h9] at hf
            refine gr_iconst 0 X dX8_spread_50 (by decide) ?_
            refine gr_sub (lv' := [(0, .ref (gx_ad x 123)), (1, .ref (gx_ad x k0)), (2, .int x2), (3, .int x3), (4, .int x4), (5, .int x5), (6, .int v5)]) [1, 2, 3, 4, 5, 6, 0] rfl ?_
            exact b8_spread_51 X hc hE hk0 ih _ _ _ _ _ _ _ hf

def f8_spread (k0 : Nat) (a1 : Int32) (a2 : Int32) (a3 : Int32) (M0 : gz_M) : Option (gz_M) := f8_spread_3 k0 gz_FU a1 a2 a3 0 M0
set_option maxRecDepth 100000 in
theorem c8_spread {pf : Nat → Bool} {l : Launch} {M0 M' : gz_M} {k0 : Nat} {a1 : Int32} {a2 : Int32} {a3 : Int32} (hk0 : gz_IsX7 pf k0) (hf : f8_spread k0 a1 a2 a3 M0 = some M') : gz_CV l gz_cfC yX8_spread cX8_spread 8 3 (fun ad => [.ref (ad 123), .ref (ad k0), .int a1, .int a2, .int a3]) pf M0 M' := by
  refine gz_ofV (by decide +kernel) (fun _ => Nat.le_of_ble_eq_true rfl) (fun x X hc hE => ?_)
  show gz_At x 0 [(0, .ref (gx_ad x 123)), (1, .ref (gx_ad x k0)), (2, .int a1), (3, .int a2), (4, .int a3)] [] M0
  unfold f8_spread at hf
  refine gr_iconst 0 X dX8_spread_0 (by decide) ?_
  refine gr_istore [(5, .int 0), (0, .ref (gx_ad x 123)), (1, .ref (gx_ad x k0)), (2, .int a1), (3, .int a2), (4, .int a3)] X dX8_spread_1 rfl (by decide) rfl ?_
  refine gr_sub (lv' := [(0, .ref (gx_ad x 123)), (1, .ref (gx_ad x k0)), (2, .int a1), (3, .int a2), (4, .int a3), (5, .int 0)]) [1, 2, 3, 4, 5, 0] rfl ?_
  exact b8_spread_3 X hc hE hk0 _ _ _ _ _ _ hf

def f8_explore_27 (k0 : Nat) : Nat → Int32 → Int32 → gz_M → Option (gz_M)
  | 0, _, _, _ => none
  | n + 1, x2, x3, M0 => if (M0.1 123 3) ≤ x3 then (some M0) else (if 1024 ≤ x3 then (some M0) else (gz_ck (gz_inb x3 1024) <| gz_ck (gz_inb x3 1024) <| gz_bd2 (f7_after k0 x2 (M0.1 124 x3.toNatClampNeg) M0) fun v5 M6 => gz_bd (f8_spread k0 x2 (M0.1 124 x3.toNatClampNeg) v5 M6) fun M8 => gz_lt (x3 + 1) fun v10 => f8_explore_27 k0 n x2 v10 M8))
theorem b8_explore_27 {x : gz_X} {pf : Nat → Bool} {l : Launch} {M' : gz_M} (X : gz_Ok x cX8_explore RX8 4 4 gz_cfC pf l) (hc : gx_cells x ≤ (gx_R x).cells ∧ gx_slots x ≤ (gx_R x).slots) (hE : gz_EV x cX8_explore M') {k0 : Nat} (hk0 : gz_IsX7 pf k0) : ∀ (n : Nat) (x2 : Int32) (x3 : Int32) (M0 : gz_M), f8_explore_27 k0 n x2 x3 M0 = some M' → gz_At x 27 [(0, .ref (gx_ad x 123)), (1, .ref (gx_ad x k0)), (2, .int x2), (3, .int x3)] [] M0 := by
  intro n
  induction n with
  | zero =>
    intro x2 x3 M0  hf
    rw [f8_explore_27] at hf
    cases hf
  | succ n ih =>
    intro x2 x3 M0  hf
    rw [f8_explore_27] at hf
    refine gr_iload_n X dX8_explore_27 3 rfl rfl ?_
    refine gr_aload_n X dX8_explore_28 0 rfl rfl ?_
    refine gf8_3 X wf_RX8_21 dX8_explore_29 ?_
    refine gr_icmp_ge 71 X dX8_explore_32 (by decide) (fun h1 => ?_) (fun h1 => ?_)
    · rw [if_pos h1] at hf
      exact gz_EVu hE hf dX8_explore_71
    · rw [if_neg h1] at hf
      refine gr_iload_n X dX8_explore_35 3 rfl rfl ?_
      refine gr_sipush 1024 X dX8_explore_36 (by decide) ?_
      refine gr_icmp_ge 71 X dX8_explore_39 (by decide) (fun h2 => ?_) (fun h2 => ?_)
      · rw [if_pos h2] at hf
        exact gz_EVu hE hf dX8_explore_71
      · rw [if_neg h2] at hf
        refine gr_aload_n X dX8_explore_42 0 rfl rfl ?_
        refine gr_aload_n X dX8_explore_43 1 rfl rfl ?_
        refine gr_iload_n X dX8_explore_44 2 rfl rfl ?_
        refine gr_aload_n X dX8_explore_45 0 rfl rfl ?_
        refine gf8_0 X wf_RX8_9 dX8_explore_46 ?_
        refine gr_iload_n X dX8_explore_49 3 rfl rfl ?_
        obtain ⟨h3, hf⟩ := gz_cke hf
        refine gr_iaload X gk_C124 (gz_inp h3) dX8_explore_50 ?_
        refine gr_aload_n X dX8_explore_51 1 rfl rfl ?_
        refine gr_iload_n X dX8_explore_52 2 rfl rfl ?_
        refine gr_aload_n X dX8_explore_53 0 rfl rfl ?_
        refine gf8_0 X wf_RX8_9 dX8_explore_54 ?_
        refine gr_iload_n X dX8_explore_57 3 rfl rfl ?_
        obtain ⟨h4, hf⟩ := gz_cke hf
        refine gr_iaload X gk_C124 (gz_inp h4) dX8_explore_58 ?_
        obtain ⟨v5, M6, q7, hf⟩ := gz_bd2e hf
        refine gr_callI (asF := fun ad => [.ref (ad k0), .int x2, .int (M0.1 124 x3.toNatClampNeg)]) [.int x2, .int (M0.1 124 x3.toNatClampNeg)] X (c7_after hk0 q7) rfl wm_RX8_41 rfl (X.kd (gk_X7o hk0)).1 ((X.kd (gk_X7o hk0)).2 _ _ _ _) rfl (by decide) (by decide) rfl (Nat.le_of_ble_eq_true rfl) hc dX8_explore_59 ?_
        obtain ⟨M8, q9, hf⟩ := gz_bde hf
        refine gr_callV (asF := fun ad => [.ref (ad 123), .ref (ad k0), .int x2, .int (M0.1 124 x3.toNatClampNeg), .int v5]) [.ref (gx_ad x k0), .int x2, .int (M0.1 124 x3.toNatClampNeg), .int v5] X (c8_spread hk0 q9) rfl wm_RX8_37 rfl (X.kd gk_C123).1 ((X.kd gk_C123).2 _ _ _ _) rfl (by decide) (by decide) rfl (Nat.le_of_ble_eq_true rfl) hc dX8_explore_62 ?_
        obtain ⟨v10, ev10, hf⟩ := gz_lte hf
        refine gr_iinc 1 [(3, .int v10), (0, .ref (gx_ad x 123)), (1, .ref (gx_ad x k0)), (2, .int x2)] X dX8_explore_65 3 rfl (by decide) ev10 (by decide) rfl ?_
        refine gr_goto 27 X dX8_explore_68 (by decide) ?_
        refine gr_sub (lv' := [(0, .ref (gx_ad x 123)), (1, .ref (gx_ad x k0)), (2, .int x2), (3, .int v10)]) [1, 2, 3, 0] rfl ?_
        exact ih _ _ _ hf

def f8_explore (k0 : Nat) (a1 : Int32) (M0 : gz_M) : Option (gz_M) := gz_bd (fJ_fill 125 1024 (-1) M0) fun M1 => gz_lt (gz_w M1 123 3 0) fun M3 => gz_bd2 (f7_atFirst k0 a1 M3) fun v4 M5 => gz_bd (f8_spread k0 a1 0 v4 M5) fun M7 => f8_explore_27 k0 gz_FU a1 0 M7
set_option maxRecDepth 100000 in
theorem c8_explore {pf : Nat → Bool} {l : Launch} {M0 M' : gz_M} {k0 : Nat} {a1 : Int32} (hk0 : gz_IsX7 pf k0) (hf : f8_explore k0 a1 M0 = some M') : gz_CV l gz_cfC yX8_explore cX8_explore 4 4 (fun ad => [.ref (ad 123), .ref (ad k0), .int a1]) pf M0 M' := by
  refine gz_ofV (by decide +kernel) (fun _ => Nat.le_of_ble_eq_true rfl) (fun x X hc hE => ?_)
  show gz_At x 0 [(0, .ref (gx_ad x 123)), (1, .ref (gx_ad x k0)), (2, .int a1)] [] M0
  unfold f8_explore at hf
  refine gr_aload_n X dX8_explore_0 0 rfl rfl ?_
  refine gf8_1 X wf_RX8_15 dX8_explore_1 ?_
  refine gr_iconst (-1) X dX8_explore_4 (by decide) ?_
  obtain ⟨M1, q2, hf⟩ := gz_bde hf
  refine gr_callSV (asF := fun ad => [.ref (ad 125), .int (-1)]) [.ref (gx_ad x 125), .int (-1)] X (cJ_fill gk_C125 (by decide) q2) rfl wm_RX8_25 rfl (by decide) (by decide) rfl (Nat.le_of_ble_eq_true rfl) hc dX8_explore_5 ?_
  refine gr_aload_n X dX8_explore_8 0 rfl rfl ?_
  refine gr_iconst 0 X dX8_explore_9 (by decide) ?_
  obtain ⟨M3, eM3, hf⟩ := gz_lte hf
  refine gp8_3 X wf_RX8_21 eM3 dX8_explore_10 ?_
  refine gr_aload_n X dX8_explore_13 0 rfl rfl ?_
  refine gr_aload_n X dX8_explore_14 1 rfl rfl ?_
  refine gr_iload_n X dX8_explore_15 2 rfl rfl ?_
  refine gr_iconst 0 X dX8_explore_16 (by decide) ?_
  refine gr_aload_n X dX8_explore_17 1 rfl rfl ?_
  refine gr_iload_n X dX8_explore_18 2 rfl rfl ?_
  obtain ⟨v4, M5, q6, hf⟩ := gz_bd2e hf
  refine gr_callI (asF := fun ad => [.ref (ad k0), .int a1]) [.int a1] X (c7_atFirst hk0 q6) rfl wm_RX8_31 rfl (X.kd (gk_X7o hk0)).1 ((X.kd (gk_X7o hk0)).2 _ _ _ _) rfl (by decide) (by decide) rfl (Nat.le_of_ble_eq_true rfl) hc dX8_explore_19 ?_
  obtain ⟨M7, q8, hf⟩ := gz_bde hf
  refine gr_callV (asF := fun ad => [.ref (ad 123), .ref (ad k0), .int a1, .int 0, .int v4]) [.ref (gx_ad x k0), .int a1, .int 0, .int v4] X (c8_spread hk0 q8) rfl wm_RX8_37 rfl (X.kd gk_C123).1 ((X.kd gk_C123).2 _ _ _ _) rfl (by decide) (by decide) rfl (Nat.le_of_ble_eq_true rfl) hc dX8_explore_22 ?_
  refine gr_iconst 0 X dX8_explore_25 (by decide) ?_
  refine gr_istore_n [(3, .int 0), (0, .ref (gx_ad x 123)), (1, .ref (gx_ad x k0)), (2, .int a1)] X dX8_explore_26 rfl rfl (by decide) rfl ?_
  refine gr_sub (lv' := [(0, .ref (gx_ad x 123)), (1, .ref (gx_ad x k0)), (2, .int a1), (3, .int 0)]) [1, 2, 3, 0] rfl ?_
  exact b8_explore_27 X hc hE hk0 _ _ _ _ hf

def f8_trace_7 : Nat → Int32 → Int32 → Int32 → gz_M → Option (Int32 × gz_M)
  | 0, _, _, _, _ => none
  | n + 1, x2, x3, x4, M0 => if 1024 ≤ x4 then (some (x2, M0)) else (if x3 ≤ 0 then (some (x2, M0)) else (if 1024 ≤ x3 then (some (x2, M0)) else (gz_ck (gz_inb x3 1024) <| gz_ck (gz_inb x4 1024) <| gz_lt (gz_w M0 126 x4.toNatClampNeg ((M0.1 125 x3.toNatClampNeg) &&& 7)) fun M6 => gz_ck (gz_inb x3 1024) <| gz_lt (gz_shr (M6.1 125 x3.toNatClampNeg) 3) fun v8 => gz_lt (x4 + 1) fun v9 => gz_lt (x4 + 1) fun v10 => f8_trace_7 n v9 v8 v10 M6)))
theorem b8_trace_7 {x : gz_X} {pf : Nat → Bool} {l : Launch} {r : Int32} {M' : gz_M} (X : gz_Ok x cX8_trace RX8 5 1 gz_cfC pf l) (hc : gx_cells x ≤ (gx_R x).cells ∧ gx_slots x ≤ (gx_R x).slots) (hE : gz_EI x cX8_trace .int r M') : ∀ (n : Nat) (x2 : Int32) (x3 : Int32) (x4 : Int32) (M0 : gz_M), f8_trace_7 n x2 x3 x4 M0 = some (r, M') → gz_At x 7 [(0, .ref (gx_ad x 123)), (2, .int x2), (3, .int x3), (4, .int x4)] [] M0 := by
  intro n
  induction n with
  | zero =>
    intro x2 x3 x4 M0  hf
    rw [f8_trace_7] at hf
    cases hf
  | succ n ih =>
    intro x2 x3 x4 M0  hf
    rw [f8_trace_7] at hf
    refine gr_iload X dX8_trace_7 3 rfl ?_
    refine gr_sipush 1024 X dX8_trace_9 (by decide) ?_
    refine gr_icmp_ge 62 X dX8_trace_12 (by decide) (fun h1 => ?_) (fun h1 => ?_)
    · rw [if_pos h1] at hf
      refine gr_iload_n X dX8_trace_62 1 rfl rfl ?_
      exact gz_EIu hE hf rfl dX8_trace_63
    · rw [if_neg h1] at hf
      refine gr_iload_n X dX8_trace_15 2 rfl rfl ?_
      refine gr_if_le 62 X dX8_trace_16 (by decide) (fun h2 => ?_) (fun h2 => ?_)
      · rw [if_pos h2] at hf
        refine gr_iload_n X dX8_trace_62 1 rfl rfl ?_
        exact gz_EIu hE hf rfl dX8_trace_63
      · rw [if_neg h2] at hf
        refine gr_iload_n X dX8_trace_19 2 rfl rfl ?_
        refine gr_sipush 1024 X dX8_trace_20 (by decide) ?_
        refine gr_icmp_ge 62 X dX8_trace_23 (by decide) (fun h3 => ?_) (fun h3 => ?_)
        · rw [if_pos h3] at hf
          refine gr_iload_n X dX8_trace_62 1 rfl rfl ?_
          exact gz_EIu hE hf rfl dX8_trace_63
        · rw [if_neg h3] at hf
          refine gr_aload_n X dX8_trace_26 0 rfl rfl ?_
          refine gf8_2 X wf_RX8_18 dX8_trace_27 ?_
          refine gr_iload X dX8_trace_30 3 rfl ?_
          refine gr_aload_n X dX8_trace_32 0 rfl rfl ?_
          refine gf8_1 X wf_RX8_15 dX8_trace_33 ?_
          refine gr_iload_n X dX8_trace_36 2 rfl rfl ?_
          obtain ⟨h4, hf⟩ := gz_cke hf
          refine gr_iaload X gk_C125 (gz_inp h4) dX8_trace_37 ?_
          refine gr_bipush 7 X dX8_trace_38 (by decide) ?_
          refine gr_iand X dX8_trace_40 ?_
          obtain ⟨h5, hf⟩ := gz_cke hf
          obtain ⟨M6, eM6, hf⟩ := gz_lte hf
          refine gr_iastore X gk_C126 (gz_inp h5) eM6 dX8_trace_41 ?_
          refine gr_aload_n X dX8_trace_42 0 rfl rfl ?_
          refine gf8_1 X wf_RX8_15 dX8_trace_43 ?_
          refine gr_iload_n X dX8_trace_46 2 rfl rfl ?_
          obtain ⟨h7, hf⟩ := gz_cke hf
          refine gr_iaload X gk_C125 (gz_inp h7) dX8_trace_47 ?_
          refine gr_iconst 3 X dX8_trace_48 (by decide) ?_
          refine gr_ishr X dX8_trace_49 ?_
          obtain ⟨v8, ev8, hf⟩ := gz_lte hf
          refine gr_istore_n [(3, .int v8), (0, .ref (gx_ad x 123)), (2, .int x2), (4, .int x4)] X dX8_trace_50 ev8 rfl (by decide) rfl ?_
          refine gr_iload X dX8_trace_51 3 rfl ?_
          refine gr_iconst 1 X dX8_trace_53 (by decide) ?_
          refine gr_iadd X dX8_trace_54 ?_
          obtain ⟨v9, ev9, hf⟩ := gz_lte hf
          refine gr_istore_n [(2, .int v9), (3, .int v8), (0, .ref (gx_ad x 123)), (4, .int x4)] X dX8_trace_55 ev9 rfl (by decide) rfl ?_
          obtain ⟨v10, ev10, hf⟩ := gz_lte hf
          refine gr_iinc 1 [(4, .int v10), (2, .int v9), (3, .int v8), (0, .ref (gx_ad x 123))] X dX8_trace_56 3 rfl (by decide) ev10 (by decide) rfl ?_
          refine gr_goto 7 X dX8_trace_59 (by decide) ?_
          refine gr_sub (lv' := [(0, .ref (gx_ad x 123)), (2, .int v9), (3, .int v8), (4, .int v10)]) [3, 1, 2, 0] rfl ?_
          exact ih _ _ _ _ hf

def f8_trace (a0 : Int32) (M0 : gz_M) : Option (Int32 × gz_M) := f8_trace_7 gz_FU 0 a0 0 M0
set_option maxRecDepth 100000 in
theorem c8_trace {pf : Nat → Bool} {l : Launch} {r : Int32} {M0 M' : gz_M} {a0 : Int32} (hf : f8_trace a0 M0 = some (r, M')) : gz_CI l gz_cfC yX8_trace cX8_trace 5 1 .int (fun ad => [.ref (ad 123), .int a0]) pf M0 r M' := by
  refine gz_ofI (by decide +kernel) (fun _ => Nat.le_of_ble_eq_true rfl) (fun x X hc hE => ?_)
  show gz_At x 0 [(0, .ref (gx_ad x 123)), (1, .int a0)] [] M0
  unfold f8_trace at hf
  refine gr_iconst 0 X dX8_trace_0 (by decide) ?_
  refine gr_istore_n [(2, .int 0), (0, .ref (gx_ad x 123)), (1, .int a0)] X dX8_trace_1 rfl rfl (by decide) rfl ?_
  refine gr_iload_n X dX8_trace_2 2 rfl rfl ?_
  refine gr_istore_n [(3, .int a0), (2, .int 0), (0, .ref (gx_ad x 123)), (1, .int a0)] X dX8_trace_3 rfl rfl (by decide) rfl ?_
  refine gr_iconst 0 X dX8_trace_4 (by decide) ?_
  refine gr_istore [(4, .int 0), (3, .int a0), (2, .int 0), (0, .ref (gx_ad x 123)), (1, .int a0)] X dX8_trace_5 rfl (by decide) rfl ?_
  refine gr_sub (lv' := [(0, .ref (gx_ad x 123)), (2, .int 0), (3, .int a0), (4, .int 0)]) [3, 2, 1, 0] rfl ?_
  exact b8_trace_7 X hc hE _ _ _ _ _ hf

def f9_addRow_68 (x1 : Int32) (x2 : Int32) (M0 : gz_M) : Option (gz_M) := gz_ck (gz_inb x2 25) <| gz_ck (gz_inb x1 25) <| gz_lt (gz_w M0 130 x1.toNatClampNeg ((M0.1 130 x2.toNatClampNeg) + 1)) fun M3 => some M3
theorem b9_addRow_68 {x : gz_X} {pf : Nat → Bool} {l : Launch} {M' : gz_M} (X : gz_Ok x cX9_addRow RX9 3 1 gz_cfC pf l) (hc : gx_cells x ≤ (gx_R x).cells ∧ gx_slots x ≤ (gx_R x).slots) (hE : gz_EV x cX9_addRow M') : ∀ (x1 : Int32) (x2 : Int32) (M0 : gz_M), f9_addRow_68 x1 x2 M0 = some M' → gz_At x 68 [(0, .ref (gx_ad x 127)), (1, .int x1), (2, .int x2)] [] M0 := by
  intro x1 x2 M0  hf
  rw [f9_addRow_68] at hf
  refine gr_aload_n X dX9_addRow_68 0 rfl rfl ?_
  refine gf9_2 X wf_RX9_18 dX9_addRow_69 ?_
  refine gr_iload_n X dX9_addRow_72 1 rfl rfl ?_
  refine gr_aload_n X dX9_addRow_73 0 rfl rfl ?_
  refine gf9_2 X wf_RX9_18 dX9_addRow_74 ?_
  refine gr_iload_n X dX9_addRow_77 2 rfl rfl ?_
  obtain ⟨h1, hf⟩ := gz_cke hf
  refine gr_iaload X gk_C130 (gz_inp h1) dX9_addRow_78 ?_
  refine gr_iconst 1 X dX9_addRow_79 (by decide) ?_
  refine gr_iadd X dX9_addRow_80 ?_
  obtain ⟨h2, hf⟩ := gz_cke hf
  obtain ⟨M3, eM3, hf⟩ := gz_lte hf
  refine gr_iastore X gk_C130 (gz_inp h2) eM3 dX9_addRow_81 ?_
  exact gz_EVu hE hf dX9_addRow_82

def f9_addRow (a0 : Int32) (a1 : Int32) (M0 : gz_M) : Option (gz_M) := if a0 < 0 then (some M0) else (if a1 ≤ a0 then (some M0) else (if 24 < a1 then (some M0) else (gz_ck (gz_inb a1 25) <| if (M0.1 130 a1.toNatClampNeg) = (-1) then (some M0) else (gz_ck (gz_inb a0 25) <| gz_ck (gz_inb a1 25) <| gz_ck (gz_inb a0 25) <| gz_lt (gz_w M0 129 a0.toNatClampNeg ((M0.1 129 a0.toNatClampNeg) + (M0.1 129 a1.toNatClampNeg))) fun M9 => gz_ck (gz_inb a0 25) <| if (M9.1 130 a0.toNatClampNeg) = (-1) then (f9_addRow_68 a0 a1 M9) else (gz_ck (gz_inb a1 25) <| gz_ck (gz_inb a0 25) <| if (M9.1 130 a0.toNatClampNeg) ≤ ((M9.1 130 a1.toNatClampNeg) + 1) then (some M9) else (f9_addRow_68 a0 a1 M9))))))
set_option maxRecDepth 100000 in
theorem c9_addRow {pf : Nat → Bool} {l : Launch} {M0 M' : gz_M} {a0 : Int32} {a1 : Int32} (hf : f9_addRow a0 a1 M0 = some M') : gz_CV l gz_cfC yX9_addRow cX9_addRow 3 1 (fun ad => [.ref (ad 127), .int a0, .int a1]) pf M0 M' := by
  refine gz_ofV (by decide +kernel) (fun _ => Nat.le_of_ble_eq_true rfl) (fun x X hc hE => ?_)
  show gz_At x 0 [(0, .ref (gx_ad x 127)), (1, .int a0), (2, .int a1)] [] M0
  unfold f9_addRow at hf
  refine gr_iload_n X dX9_addRow_0 1 rfl rfl ?_
  refine gr_if_lt 25 X dX9_addRow_1 (by decide) (fun h1 => ?_) (fun h1 => ?_)
  · rw [if_pos h1] at hf
    exact gz_EVu hE hf dX9_addRow_25
  · rw [if_neg h1] at hf
    refine gr_iload_n X dX9_addRow_4 2 rfl rfl ?_
    refine gr_iload_n X dX9_addRow_5 1 rfl rfl ?_
    refine gr_icmp_le 25 X dX9_addRow_6 (by decide) (fun h2 => ?_) (fun h2 => ?_)
    · rw [if_pos h2] at hf
      exact gz_EVu hE hf dX9_addRow_25
    · rw [if_neg h2] at hf
      refine gr_iload_n X dX9_addRow_9 2 rfl rfl ?_
      refine gr_bipush 24 X dX9_addRow_10 (by decide) ?_
      refine gr_icmp_gt 25 X dX9_addRow_12 (by decide) (fun h3 => ?_) (fun h3 => ?_)
      · rw [if_pos h3] at hf
        exact gz_EVu hE hf dX9_addRow_25
      · rw [if_neg h3] at hf
        refine gr_aload_n X dX9_addRow_15 0 rfl rfl ?_
        refine gf9_2 X wf_RX9_18 dX9_addRow_16 ?_
        refine gr_iload_n X dX9_addRow_19 2 rfl rfl ?_
        obtain ⟨h4, hf⟩ := gz_cke hf
        refine gr_iaload X gk_C130 (gz_inp h4) dX9_addRow_20 ?_
        refine gr_iconst (-1) X dX9_addRow_21 (by decide) ?_
        refine gr_icmp_ne 26 X dX9_addRow_22 (by decide) (fun h5 => ?_) (fun h5 => ?_)
        · rw [if_pos h5] at hf
          exact gz_EVu hE hf dX9_addRow_25
        · rw [if_neg h5] at hf
          refine gr_aload_n X dX9_addRow_26 0 rfl rfl ?_
          refine gf9_1 X wf_RX9_15 dX9_addRow_27 ?_
          refine gr_iload_n X dX9_addRow_30 1 rfl rfl ?_
          refine gr_dup2 X dX9_addRow_31 rfl rfl ?_
          obtain ⟨h6, hf⟩ := gz_cke hf
          refine gr_iaload X gk_C129 (gz_inp h6) dX9_addRow_32 ?_
          refine gr_aload_n X dX9_addRow_33 0 rfl rfl ?_
          refine gf9_1 X wf_RX9_15 dX9_addRow_34 ?_
          refine gr_iload_n X dX9_addRow_37 2 rfl rfl ?_
          obtain ⟨h7, hf⟩ := gz_cke hf
          refine gr_iaload X gk_C129 (gz_inp h7) dX9_addRow_38 ?_
          refine gr_iadd X dX9_addRow_39 ?_
          obtain ⟨h8, hf⟩ := gz_cke hf
          obtain ⟨M9, eM9, hf⟩ := gz_lte hf
          refine gr_iastore X gk_C129 (gz_inp h8) eM9 dX9_addRow_40 ?_
          refine gr_aload_n X dX9_addRow_41 0 rfl rfl ?_
          refine gf9_2 X wf_RX9_18 dX9_addRow_42 ?_
          refine gr_iload_n X dX9_addRow_45 1 rfl rfl ?_
          obtain ⟨h10, hf⟩ := gz_cke hf
          refine gr_iaload X gk_C130 (gz_inp h10) dX9_addRow_46 ?_
          refine gr_iconst (-1) X dX9_addRow_47 (by decide) ?_
          refine gr_icmp_eq 68 X dX9_addRow_48 (by decide) (fun h11 => ?_) (fun h11 => ?_)
          · rw [if_pos h11] at hf
            exact b9_addRow_68 X hc hE _ _ _ hf
          · rw [if_neg h11] at hf
            refine gr_aload_n X dX9_addRow_51 0 rfl rfl ?_
            refine gf9_2 X wf_RX9_18 dX9_addRow_52 ?_
            refine gr_iload_n X dX9_addRow_55 2 rfl rfl ?_
            obtain ⟨h12, hf⟩ := gz_cke hf
            refine gr_iaload X gk_C130 (gz_inp h12) dX9_addRow_56 ?_
            refine gr_iconst 1 X dX9_addRow_57 (by decide) ?_
            refine gr_iadd X dX9_addRow_58 ?_
            refine gr_aload_n X dX9_addRow_59 0 rfl rfl ?_
            refine gf9_2 X wf_RX9_18 dX9_addRow_60 ?_
            refine gr_iload_n X dX9_addRow_63 1 rfl rfl ?_
            obtain ⟨h13, hf⟩ := gz_cke hf
            refine gr_iaload X gk_C130 (gz_inp h13) dX9_addRow_64 ?_
            refine gr_icmp_ge 82 X dX9_addRow_65 (by decide) (fun h14 => ?_) (fun h14 => ?_)
            · rw [if_pos h14] at hf
              exact gz_EVu hE hf dX9_addRow_82
            · rw [if_neg h14] at hf
              exact b9_addRow_68 X hc hE _ _ _ hf

def f9_endsFrom_63 (k0 : Nat) (k1 : Nat) (c13 : Int32 → Int32 → Int32 → Int32 → gz_M → Option (Int32 × gz_M)) (x3 : Int32) (x6 : Int32) (x7 : Int32) (s0 : Int32) (s1 : Int32) (M0 : gz_M) : Option (Int32 × gz_M) := gz_lt (s1 ||| s0) fun v1 => gz_bd2 (f7_after k0 0 x7 M0) fun v2 M3 => gz_lt (x6 + 1) fun v5 => c13 x3 v1 v2 v5 M3
theorem b9_endsFrom_63 {x : gz_X} {pf : Nat → Bool} {l : Launch} {r : Int32} {M' : gz_M} (X : gz_Ok x cX9_endsFrom RX9 8 3 gz_cfC pf l) (hc : gx_cells x ≤ (gx_R x).cells ∧ gx_slots x ≤ (gx_R x).slots) (hE : gz_EI x cX9_endsFrom .int r M') {k0 : Nat} {k1 : Nat} (hk0 : gz_IsX7 pf k0) (hk1 : gz_IsX5 pf k1) {c13 : Int32 → Int32 → Int32 → Int32 → gz_M → Option (Int32 × gz_M)} (hc13 : ∀ (x3 : Int32) (x4 : Int32) (x5 : Int32) (x6 : Int32) (M0 : gz_M), c13 x3 x4 x5 x6 M0 = some (r, M') → gz_At x 13 [(0, .ref (gx_ad x k0)), (1, .ref (gx_ad x k1)), (3, .int x3), (4, .int x4), (5, .int x5), (6, .int x6)] [] M0) : ∀ (x3 : Int32) (x6 : Int32) (x7 : Int32) (s0 : Int32) (s1 : Int32) (M0 : gz_M), f9_endsFrom_63 k0 k1 c13 x3 x6 x7 s0 s1 M0 = some (r, M') → gz_At x 63 [(0, .ref (gx_ad x k0)), (1, .ref (gx_ad x k1)), (3, .int x3), (6, .int x6), (7, .int x7)] [.int s0, .int s1] M0 := by
  intro x3 x6 x7 s0 s1 M0  hf
  rw [f9_endsFrom_63] at hf
  refine gr_ior X dX9_endsFrom_63 ?_
  obtain ⟨v1, ev1, hf⟩ := gz_lte hf
  refine gr_istore [(4, .int v1), (0, .ref (gx_ad x k0)), (1, .ref (gx_ad x k1)), (3, .int x3), (6, .int x6), (7, .int x7)] X dX9_endsFrom_64 ev1 (by decide) rfl ?_
  refine gr_aload_n X dX9_endsFrom_66 1 rfl rfl ?_
  refine gr_iconst 0 X dX9_endsFrom_67 (by decide) ?_
  refine gr_iload X dX9_endsFrom_68 5 rfl ?_
  obtain ⟨v2, M3, q4, hf⟩ := gz_bd2e hf
  refine gr_callI (asF := fun ad => [.ref (ad k0), .int 0, .int x7]) [.int 0, .int x7] X (c7_after hk0 q4) rfl wm_RX9_47 rfl (X.kd (gk_X7o hk0)).1 ((X.kd (gk_X7o hk0)).2 _ _ _ _) rfl (by decide) (by decide) rfl (Nat.le_of_ble_eq_true rfl) hc dX9_endsFrom_70 ?_
  refine gr_istore [(5, .int v2), (4, .int v1), (0, .ref (gx_ad x k0)), (1, .ref (gx_ad x k1)), (3, .int x3), (6, .int x6), (7, .int x7)] X dX9_endsFrom_73 rfl (by decide) rfl ?_
  obtain ⟨v5, ev5, hf⟩ := gz_lte hf
  refine gr_iinc 1 [(6, .int v5), (5, .int v2), (4, .int v1), (0, .ref (gx_ad x k0)), (1, .ref (gx_ad x k1)), (3, .int x3), (7, .int x7)] X dX9_endsFrom_75 5 rfl (by decide) ev5 (by decide) rfl ?_
  refine gr_goto 13 X dX9_endsFrom_78 (by decide) ?_
  refine gr_sub (lv' := [(0, .ref (gx_ad x k0)), (1, .ref (gx_ad x k1)), (3, .int x3), (4, .int v1), (5, .int v2), (6, .int v5)]) [3, 4, 5, 2, 1, 0] rfl ?_
  exact hc13 _ _ _ _ _ hf

def f9_endsFrom_13 (k0 : Nat) (k1 : Nat) : Nat → Int32 → Int32 → Int32 → Int32 → gz_M → Option (Int32 × gz_M)
  | 0, _, _, _, _, _ => none
  | n + 1, x3, x4, x5, x6, M0 => if x3 ≤ x6 then (some (x4, M0)) else (if x5 = 0 then (some (x4, M0)) else (gz_bd2 (f5_get k1 x6 M0) fun v3 M4 => gz_bd2 (f7_takersOf k0 0 v3 M4) fun v6 M7 => gz_lt (x5 &&& v6) fun v9 => gz_bd2 (f7_winner k0 0 v9 M7) fun v10 M11 => if v10 = (-1) then (f9_endsFrom_63 k0 k1 (f9_endsFrom_13 k0 k1 n) x3 x6 v9 0 x4 M11) else (f9_endsFrom_63 k0 k1 (f9_endsFrom_13 k0 k1 n) x3 x6 v9 (gz_shl 1 (x6 + 1)) x4 M11)))
theorem b9_endsFrom_13 {x : gz_X} {pf : Nat → Bool} {l : Launch} {r : Int32} {M' : gz_M} (X : gz_Ok x cX9_endsFrom RX9 8 3 gz_cfC pf l) (hc : gx_cells x ≤ (gx_R x).cells ∧ gx_slots x ≤ (gx_R x).slots) (hE : gz_EI x cX9_endsFrom .int r M') {k0 : Nat} {k1 : Nat} (hk0 : gz_IsX7 pf k0) (hk1 : gz_IsX5 pf k1) : ∀ (n : Nat) (x3 : Int32) (x4 : Int32) (x5 : Int32) (x6 : Int32) (M0 : gz_M), f9_endsFrom_13 k0 k1 n x3 x4 x5 x6 M0 = some (r, M') → gz_At x 13 [(0, .ref (gx_ad x k0)), (1, .ref (gx_ad x k1)), (3, .int x3), (4, .int x4), (5, .int x5), (6, .int x6)] [] M0 := by
  intro n
  induction n with
  | zero =>
    intro x3 x4 x5 x6 M0  hf
    rw [f9_endsFrom_13] at hf
    cases hf
  | succ n ih =>
    intro x3 x4 x5 x6 M0  hf
    rw [f9_endsFrom_13] at hf
    refine gr_iload X dX9_endsFrom_13 5 rfl ?_
    refine gr_iload_n X dX9_endsFrom_15 2 rfl rfl ?_
    refine gr_icmp_ge 81 X dX9_endsFrom_16 (by decide) (fun h1 => ?_) (fun h1 => ?_)
    · rw [if_pos h1] at hf
      refine gr_iload X dX9_endsFrom_81 3 rfl ?_
      exact gz_EIu hE hf rfl dX9_endsFrom_83
    · rw [if_neg h1] at hf
      refine gr_iload X dX9_endsFrom_19 4 rfl ?_
      refine gr_if_eq 81 X dX9_endsFrom_21 (by decide) (fun h2 => ?_) (fun h2 => ?_)
      · rw [if_pos h2] at hf
        refine gr_iload X dX9_endsFrom_81 3 rfl ?_
        exact gz_EIu hE hf rfl dX9_endsFrom_83
      · rw [if_neg h2] at hf
        refine gr_iload X dX9_endsFrom_24 4 rfl ?_
        refine gr_aload_n X dX9_endsFrom_26 0 rfl rfl ?_
        refine gr_iconst 0 X dX9_endsFrom_27 (by decide) ?_
        refine gr_aload_n X dX9_endsFrom_28 1 rfl rfl ?_
        refine gr_iload X dX9_endsFrom_29 5 rfl ?_
        obtain ⟨v3, M4, q5, hf⟩ := gz_bd2e hf
        refine gr_callI (asF := fun ad => [.ref (ad k1), .int x6]) [.int x6] X (c5_get hk1 q5) rfl wm_RX9_35 rfl (X.kd (gk_X5o hk1)).1 ((X.kd (gk_X5o hk1)).2 _ _ _ _) rfl (by decide) (by decide) rfl (Nat.le_of_ble_eq_true rfl) hc dX9_endsFrom_31 ?_
        obtain ⟨v6, M7, q8, hf⟩ := gz_bd2e hf
        refine gr_callI (asF := fun ad => [.ref (ad k0), .int 0, .int v3]) [.int 0, .int v3] X (c7_takersOf hk0 q8) rfl wm_RX9_40 rfl (X.kd (gk_X7o hk0)).1 ((X.kd (gk_X7o hk0)).2 _ _ _ _) rfl (by decide) (by decide) rfl (Nat.le_of_ble_eq_true rfl) hc dX9_endsFrom_34 ?_
        refine gr_iand X dX9_endsFrom_37 ?_
        obtain ⟨v9, ev9, hf⟩ := gz_lte hf
        refine gr_istore [(7, .int v9), (0, .ref (gx_ad x k0)), (1, .ref (gx_ad x k1)), (3, .int x3), (4, .int x4), (5, .int x5), (6, .int x6)] X dX9_endsFrom_38 ev9 (by decide) rfl ?_
        refine gr_iload X dX9_endsFrom_40 4 rfl ?_
        refine gr_aload_n X dX9_endsFrom_42 1 rfl rfl ?_
        refine gr_iconst 0 X dX9_endsFrom_43 (by decide) ?_
        refine gr_iload X dX9_endsFrom_44 0 rfl ?_
        obtain ⟨v10, M11, q12, hf⟩ := gz_bd2e hf
        refine gr_callI (asF := fun ad => [.ref (ad k0), .int 0, .int v9]) [.int 0, .int v9] X (c7_winner hk0 q12) rfl wm_RX9_44 rfl (X.kd (gk_X7o hk0)).1 ((X.kd (gk_X7o hk0)).2 _ _ _ _) rfl (by decide) (by decide) rfl (Nat.le_of_ble_eq_true rfl) hc dX9_endsFrom_46 ?_
        refine gr_iconst (-1) X dX9_endsFrom_49 (by decide) ?_
        refine gr_icmp_ne 57 X dX9_endsFrom_50 (by decide) (fun h13 => ?_) (fun h13 => ?_)
        · rw [if_pos h13] at hf
          refine gr_iconst 0 X dX9_endsFrom_53 (by decide) ?_
          refine gr_goto 63 X dX9_endsFrom_54 (by decide) ?_
          refine gr_sub (lv' := [(0, .ref (gx_ad x k0)), (1, .ref (gx_ad x k1)), (3, .int x3), (6, .int x6), (7, .int v9)]) [1, 2, 3, 6, 0] rfl ?_
          exact b9_endsFrom_63 X hc hE hk0 hk1 ih _ _ _ _ _ _ hf
        · rw [if_neg h13] at hf
          refine gr_iconst 1 X dX9_endsFrom_57 (by decide) ?_
          refine gr_iload X dX9_endsFrom_58 6 rfl ?_
          refine gr_iconst 1 X dX9_endsFrom_60 (by decide) ?_
          refine gr_iadd X dX9_endsFrom_61 ?_
          refine gr_ishl X dX9_endsFrom_62 ?_
          refine gr_sub (lv' := [(0, .ref (gx_ad x k0)), (1, .ref (gx_ad x k1)), (3, .int x3), (6, .int x6), (7, .int v9)]) [1, 2, 3, 6, 0] rfl ?_
          exact b9_endsFrom_63 X hc hE hk0 hk1 ih _ _ _ _ _ _ hf

def f9_endsFrom (k0 : Nat) (k1 : Nat) (a2 : Int32) (a3 : Int32) (M0 : gz_M) : Option (Int32 × gz_M) := gz_bd2 (f7_atFirst k0 0 M0) fun v1 M2 => f9_endsFrom_13 k0 k1 gz_FU a3 0 v1 a2 M2
set_option maxRecDepth 100000 in
theorem c9_endsFrom {pf : Nat → Bool} {l : Launch} {r : Int32} {M0 M' : gz_M} {k0 : Nat} {k1 : Nat} {a2 : Int32} {a3 : Int32} (hk0 : gz_IsX7 pf k0) (hk1 : gz_IsX5 pf k1) (hf : f9_endsFrom k0 k1 a2 a3 M0 = some (r, M')) : gz_CI l gz_cfC yX9_endsFrom cX9_endsFrom 8 3 .int (fun ad => [.ref (ad k0), .ref (ad k1), .int a2, .int a3]) pf M0 r M' := by
  refine gz_ofI (by decide +kernel) (fun _ => Nat.le_of_ble_eq_true rfl) (fun x X hc hE => ?_)
  show gz_At x 0 [(0, .ref (gx_ad x k0)), (1, .ref (gx_ad x k1)), (2, .int a2), (3, .int a3)] [] M0
  unfold f9_endsFrom at hf
  refine gr_iconst 0 X dX9_endsFrom_0 (by decide) ?_
  refine gr_istore [(4, .int 0), (0, .ref (gx_ad x k0)), (1, .ref (gx_ad x k1)), (2, .int a2), (3, .int a3)] X dX9_endsFrom_1 rfl (by decide) rfl ?_
  refine gr_aload_n X dX9_endsFrom_3 1 rfl rfl ?_
  refine gr_iconst 0 X dX9_endsFrom_4 (by decide) ?_
  obtain ⟨v1, M2, q3, hf⟩ := gz_bd2e hf
  refine gr_callI (asF := fun ad => [.ref (ad k0), .int 0]) [.int 0] X (c7_atFirst hk0 q3) rfl wm_RX9_29 rfl (X.kd (gk_X7o hk0)).1 ((X.kd (gk_X7o hk0)).2 _ _ _ _) rfl (by decide) (by decide) rfl (Nat.le_of_ble_eq_true rfl) hc dX9_endsFrom_5 ?_
  refine gr_istore [(5, .int v1), (4, .int 0), (0, .ref (gx_ad x k0)), (1, .ref (gx_ad x k1)), (2, .int a2), (3, .int a3)] X dX9_endsFrom_8 rfl (by decide) rfl ?_
  refine gr_iload_n X dX9_endsFrom_10 4 rfl rfl ?_
  refine gr_istore [(6, .int a2), (5, .int v1), (4, .int 0), (0, .ref (gx_ad x k0)), (1, .ref (gx_ad x k1)), (2, .int a2), (3, .int a3)] X dX9_endsFrom_11 rfl (by decide) rfl ?_
  refine gr_sub (lv' := [(0, .ref (gx_ad x k0)), (1, .ref (gx_ad x k1)), (3, .int a3), (4, .int 0), (5, .int v1), (6, .int a2)]) [3, 4, 6, 2, 1, 0] rfl ?_
  exact b9_endsFrom_13 X hc hE hk0 hk1 _ _ _ _ _ _ hf

def f9_make_82 (k0 : Nat) (k1 : Nat) (c16 : Int32 → Int32 → Int32 → gz_M → Option (gz_M)) : Nat → Int32 → Int32 → Int32 → Int32 → gz_M → Option (gz_M)
  | 0, _, _, _, _, _ => none
  | n + 1, x3, x4, x5, x6, M0 => if x4 < x6 then (gz_lt (x5 + (-1)) fun v2 => c16 x3 x4 v2 M0) else (gz_ck (gz_inb x5 25) <| if ((gz_shr (M0.1 128 x5.toNatClampNeg) x6) &&& 1) = 0 then (gz_lt (x6 + 1) fun v5 => f9_make_82 k0 k1 c16 n x3 x4 x5 v5 M0) else (gz_bd (f9_addRow x5 x6 M0) fun M6 => gz_lt (x6 + 1) fun v8 => f9_make_82 k0 k1 c16 n x3 x4 x5 v8 M6))
theorem b9_make_82 {x : gz_X} {pf : Nat → Bool} {l : Launch} {M' : gz_M} (X : gz_Ok x cX9_make RX9 7 4 gz_cfC pf l) (hc : gx_cells x ≤ (gx_R x).cells ∧ gx_slots x ≤ (gx_R x).slots) (hE : gz_EV x cX9_make M') {k0 : Nat} {k1 : Nat} (hk0 : gz_IsX7 pf k0) (hk1 : gz_IsX5 pf k1) {c16 : Int32 → Int32 → Int32 → gz_M → Option (gz_M)} (hc16 : ∀ (x3 : Int32) (x4 : Int32) (x5 : Int32) (M0 : gz_M), c16 x3 x4 x5 M0 = some M' → gz_At x 16 [(0, .ref (gx_ad x 127)), (1, .ref (gx_ad x k0)), (2, .ref (gx_ad x k1)), (3, .int x3), (4, .int x4), (5, .int x5)] [] M0) : ∀ (n : Nat) (x3 : Int32) (x4 : Int32) (x5 : Int32) (x6 : Int32) (M0 : gz_M), f9_make_82 k0 k1 c16 n x3 x4 x5 x6 M0 = some M' → gz_At x 82 [(0, .ref (gx_ad x 127)), (1, .ref (gx_ad x k0)), (2, .ref (gx_ad x k1)), (3, .int x3), (4, .int x4), (5, .int x5), (6, .int x6)] [] M0 := by
  intro n
  induction n with
  | zero =>
    intro x3 x4 x5 x6 M0  hf
    rw [f9_make_82] at hf
    cases hf
  | succ n ih =>
    intro x3 x4 x5 x6 M0  hf
    rw [f9_make_82] at hf
    refine gr_iload X dX9_make_82 6 rfl ?_
    refine gr_iload X dX9_make_84 4 rfl ?_
    refine gr_icmp_gt 118 X dX9_make_86 (by decide) (fun h1 => ?_) (fun h1 => ?_)
    · rw [if_pos h1] at hf
      obtain ⟨v2, ev2, hf⟩ := gz_lte hf
      refine gr_iinc (-1) [(5, .int v2), (0, .ref (gx_ad x 127)), (1, .ref (gx_ad x k0)), (2, .ref (gx_ad x k1)), (3, .int x3), (4, .int x4), (6, .int x6)] X dX9_make_118 5 rfl (by decide) ev2 (by decide) rfl ?_
      refine gr_goto 16 X dX9_make_121 (by decide) ?_
      refine gr_sub (lv' := [(0, .ref (gx_ad x 127)), (1, .ref (gx_ad x k0)), (2, .ref (gx_ad x k1)), (3, .int x3), (4, .int x4), (5, .int v2)]) [1, 2, 3, 4, 5, 0] rfl ?_
      exact hc16 _ _ _ _ hf
    · rw [if_neg h1] at hf
      refine gr_aload_n X dX9_make_89 0 rfl rfl ?_
      refine gf9_0 X wf_RX9_9 dX9_make_90 ?_
      refine gr_iload X dX9_make_93 5 rfl ?_
      obtain ⟨h3, hf⟩ := gz_cke hf
      refine gr_iaload X gk_C128 (gz_inp h3) dX9_make_95 ?_
      refine gr_iload X dX9_make_96 6 rfl ?_
      refine gr_ishr X dX9_make_98 ?_
      refine gr_iconst 1 X dX9_make_99 (by decide) ?_
      refine gr_iand X dX9_make_100 ?_
      refine gr_if_eq 112 X dX9_make_101 (by decide) (fun h4 => ?_) (fun h4 => ?_)
      · rw [if_pos h4] at hf
        obtain ⟨v5, ev5, hf⟩ := gz_lte hf
        refine gr_iinc 1 [(6, .int v5), (0, .ref (gx_ad x 127)), (1, .ref (gx_ad x k0)), (2, .ref (gx_ad x k1)), (3, .int x3), (4, .int x4), (5, .int x5)] X dX9_make_112 6 rfl (by decide) ev5 (by decide) rfl ?_
        refine gr_goto 82 X dX9_make_115 (by decide) ?_
        refine gr_sub (lv' := [(0, .ref (gx_ad x 127)), (1, .ref (gx_ad x k0)), (2, .ref (gx_ad x k1)), (3, .int x3), (4, .int x4), (5, .int x5), (6, .int v5)]) [1, 2, 3, 4, 5, 6, 0] rfl ?_
        exact ih _ _ _ _ _ hf
      · rw [if_neg h4] at hf
        refine gr_aload_n X dX9_make_104 0 rfl rfl ?_
        refine gr_iload X dX9_make_105 5 rfl ?_
        refine gr_iload X dX9_make_107 6 rfl ?_
        obtain ⟨M6, q7, hf⟩ := gz_bde hf
        refine gr_callV (asF := fun ad => [.ref (ad 127), .int x5, .int x6]) [.int x5, .int x6] X (c9_addRow q7) rfl wm_RX9_25 rfl (X.kd gk_C127).1 ((X.kd gk_C127).2 _ _ _ _) rfl (by decide) (by decide) rfl (Nat.le_of_ble_eq_true rfl) hc dX9_make_109 ?_
        obtain ⟨v8, ev8, hf⟩ := gz_lte hf
        refine gr_iinc 1 [(6, .int v8), (0, .ref (gx_ad x 127)), (1, .ref (gx_ad x k0)), (2, .ref (gx_ad x k1)), (3, .int x3), (4, .int x4), (5, .int x5)] X dX9_make_112 6 rfl (by decide) ev8 (by decide) rfl ?_
        refine gr_goto 82 X dX9_make_115 (by decide) ?_
        refine gr_sub (lv' := [(0, .ref (gx_ad x 127)), (1, .ref (gx_ad x k0)), (2, .ref (gx_ad x k1)), (3, .int x3), (4, .int x4), (5, .int x5), (6, .int v8)]) [1, 2, 3, 4, 5, 6, 0] rfl ?_
        exact ih _ _ _ _ _ hf

def f9_make_56 (k0 : Nat) (k1 : Nat) (c16 : Int32 → Int32 → Int32 → gz_M → Option (gz_M)) (x3 : Int32) (x4 : Int32) (x5 : Int32) (s0 : Int32) (s1 : Int32) (M0 : gz_M) : Option (gz_M) := gz_ck (gz_inb s1 25) <| gz_lt (gz_w M0 129 s1.toNatClampNeg s0) fun M2 => if x5 = x4 then (gz_ck (gz_inb x5 25) <| gz_lt (gz_w M2 130 x5.toNatClampNeg 0) fun M5 => gz_lt (x5 + 1) fun v6 => f9_make_82 k0 k1 c16 gz_FU x3 x4 x5 v6 M5) else (gz_ck (gz_inb x5 25) <| gz_lt (gz_w M2 130 x5.toNatClampNeg (-1)) fun M8 => gz_lt (x5 + 1) fun v9 => f9_make_82 k0 k1 c16 gz_FU x3 x4 x5 v9 M8)
theorem b9_make_56 {x : gz_X} {pf : Nat → Bool} {l : Launch} {M' : gz_M} (X : gz_Ok x cX9_make RX9 7 4 gz_cfC pf l) (hc : gx_cells x ≤ (gx_R x).cells ∧ gx_slots x ≤ (gx_R x).slots) (hE : gz_EV x cX9_make M') {k0 : Nat} {k1 : Nat} (hk0 : gz_IsX7 pf k0) (hk1 : gz_IsX5 pf k1) {c16 : Int32 → Int32 → Int32 → gz_M → Option (gz_M)} (hc16 : ∀ (x3 : Int32) (x4 : Int32) (x5 : Int32) (M0 : gz_M), c16 x3 x4 x5 M0 = some M' → gz_At x 16 [(0, .ref (gx_ad x 127)), (1, .ref (gx_ad x k0)), (2, .ref (gx_ad x k1)), (3, .int x3), (4, .int x4), (5, .int x5)] [] M0) : ∀ (x3 : Int32) (x4 : Int32) (x5 : Int32) (s0 : Int32) (s1 : Int32) (M0 : gz_M), f9_make_56 k0 k1 c16 x3 x4 x5 s0 s1 M0 = some M' → gz_At x 56 [(0, .ref (gx_ad x 127)), (1, .ref (gx_ad x k0)), (2, .ref (gx_ad x k1)), (3, .int x3), (4, .int x4), (5, .int x5)] [.int s0, .int s1, .ref (gx_ad x 129)] M0 := by
  intro x3 x4 x5 s0 s1 M0  hf
  rw [f9_make_56] at hf
  obtain ⟨h1, hf⟩ := gz_cke hf
  obtain ⟨M2, eM2, hf⟩ := gz_lte hf
  refine gr_iastore X gk_C129 (gz_inp h1) eM2 dX9_make_56 ?_
  refine gr_aload_n X dX9_make_57 0 rfl rfl ?_
  refine gf9_2 X wf_RX9_18 dX9_make_58 ?_
  refine gr_iload X dX9_make_61 5 rfl ?_
  refine gr_iload X dX9_make_63 5 rfl ?_
  refine gr_iload X dX9_make_65 4 rfl ?_
  refine gr_icmp_ne 74 X dX9_make_67 (by decide) (fun h3 => ?_) (fun h3 => ?_)
  · rw [if_pos h3] at hf
    refine gr_iconst 0 X dX9_make_70 (by decide) ?_
    refine gr_goto 75 X dX9_make_71 (by decide) ?_
    obtain ⟨h4, hf⟩ := gz_cke hf
    obtain ⟨M5, eM5, hf⟩ := gz_lte hf
    refine gr_iastore X gk_C130 (gz_inp h4) eM5 dX9_make_75 ?_
    refine gr_iload X dX9_make_76 5 rfl ?_
    refine gr_iconst 1 X dX9_make_78 (by decide) ?_
    refine gr_iadd X dX9_make_79 ?_
    obtain ⟨v6, ev6, hf⟩ := gz_lte hf
    refine gr_istore [(6, .int v6), (0, .ref (gx_ad x 127)), (1, .ref (gx_ad x k0)), (2, .ref (gx_ad x k1)), (3, .int x3), (4, .int x4), (5, .int x5)] X dX9_make_80 ev6 (by decide) rfl ?_
    refine gr_sub (lv' := [(0, .ref (gx_ad x 127)), (1, .ref (gx_ad x k0)), (2, .ref (gx_ad x k1)), (3, .int x3), (4, .int x4), (5, .int x5), (6, .int v6)]) [1, 2, 3, 4, 5, 6, 0] rfl ?_
    exact b9_make_82 X hc hE hk0 hk1 hc16 _ _ _ _ _ _ hf
  · rw [if_neg h3] at hf
    refine gr_iconst (-1) X dX9_make_74 (by decide) ?_
    obtain ⟨h7, hf⟩ := gz_cke hf
    obtain ⟨M8, eM8, hf⟩ := gz_lte hf
    refine gr_iastore X gk_C130 (gz_inp h7) eM8 dX9_make_75 ?_
    refine gr_iload X dX9_make_76 5 rfl ?_
    refine gr_iconst 1 X dX9_make_78 (by decide) ?_
    refine gr_iadd X dX9_make_79 ?_
    obtain ⟨v9, ev9, hf⟩ := gz_lte hf
    refine gr_istore [(6, .int v9), (0, .ref (gx_ad x 127)), (1, .ref (gx_ad x k0)), (2, .ref (gx_ad x k1)), (3, .int x3), (4, .int x4), (5, .int x5)] X dX9_make_80 ev9 (by decide) rfl ?_
    refine gr_sub (lv' := [(0, .ref (gx_ad x 127)), (1, .ref (gx_ad x k0)), (2, .ref (gx_ad x k1)), (3, .int x3), (4, .int x4), (5, .int x5), (6, .int v9)]) [1, 2, 3, 4, 5, 6, 0] rfl ?_
    exact b9_make_82 X hc hE hk0 hk1 hc16 _ _ _ _ _ _ hf

def f9_make_16 (k0 : Nat) (k1 : Nat) : Nat → Int32 → Int32 → Int32 → gz_M → Option (gz_M)
  | 0, _, _, _, _ => none
  | n + 1, x3, x4, x5, M0 => if x5 < x3 then (some M0) else (gz_bd2 (f9_endsFrom k0 k1 x5 x4 M0) fun v2 M3 => gz_ck (gz_inb x5 25) <| gz_lt (gz_w M3 128 x5.toNatClampNeg v2) fun M6 => if x5 = x4 then (f9_make_56 k0 k1 (f9_make_16 k0 k1 n) x3 x4 x5 1 x5 M6) else (f9_make_56 k0 k1 (f9_make_16 k0 k1 n) x3 x4 x5 0 x5 M6))
theorem b9_make_16 {x : gz_X} {pf : Nat → Bool} {l : Launch} {M' : gz_M} (X : gz_Ok x cX9_make RX9 7 4 gz_cfC pf l) (hc : gx_cells x ≤ (gx_R x).cells ∧ gx_slots x ≤ (gx_R x).slots) (hE : gz_EV x cX9_make M') {k0 : Nat} {k1 : Nat} (hk0 : gz_IsX7 pf k0) (hk1 : gz_IsX5 pf k1) : ∀ (n : Nat) (x3 : Int32) (x4 : Int32) (x5 : Int32) (M0 : gz_M), f9_make_16 k0 k1 n x3 x4 x5 M0 = some M' → gz_At x 16 [(0, .ref (gx_ad x 127)), (1, .ref (gx_ad x k0)), (2, .ref (gx_ad x k1)), (3, .int x3), (4, .int x4), (5, .int x5)] [] M0 := by
  intro n
  induction n with
  | zero =>
    intro x3 x4 x5 M0  hf
    rw [f9_make_16] at hf
    cases hf
  | succ n ih =>
    intro x3 x4 x5 M0  hf
    rw [f9_make_16] at hf
    refine gr_iload X dX9_make_16 5 rfl ?_
    refine gr_iload_n X dX9_make_18 3 rfl rfl ?_
    refine gr_icmp_lt 124 X dX9_make_19 (by decide) (fun h1 => ?_) (fun h1 => ?_)
    · rw [if_pos h1] at hf
      exact gz_EVu hE hf dX9_make_124
    · rw [if_neg h1] at hf
      refine gr_aload_n X dX9_make_22 0 rfl rfl ?_
      refine gf9_0 X wf_RX9_9 dX9_make_23 ?_
      refine gr_iload X dX9_make_26 5 rfl ?_
      refine gr_aload_n X dX9_make_28 1 rfl rfl ?_
      refine gr_aload_n X dX9_make_29 2 rfl rfl ?_
      refine gr_iload X dX9_make_30 5 rfl ?_
      refine gr_iload X dX9_make_32 4 rfl ?_
      obtain ⟨v2, M3, q4, hf⟩ := gz_bd2e hf
      refine gr_callSI (asF := fun ad => [.ref (ad k0), .ref (ad k1), .int x5, .int x4]) [.ref (gx_ad x k0), .ref (gx_ad x k1), .int x5, .int x4] X (c9_endsFrom hk0 hk1 q4) rfl wm_RX9_21 rfl (by decide) (by decide) rfl (Nat.le_of_ble_eq_true rfl) hc dX9_make_34 ?_
      obtain ⟨h5, hf⟩ := gz_cke hf
      obtain ⟨M6, eM6, hf⟩ := gz_lte hf
      refine gr_iastore X gk_C128 (gz_inp h5) eM6 dX9_make_37 ?_
      refine gr_aload_n X dX9_make_38 0 rfl rfl ?_
      refine gf9_1 X wf_RX9_15 dX9_make_39 ?_
      refine gr_iload X dX9_make_42 5 rfl ?_
      refine gr_iload X dX9_make_44 5 rfl ?_
      refine gr_iload X dX9_make_46 4 rfl ?_
      refine gr_icmp_ne 55 X dX9_make_48 (by decide) (fun h7 => ?_) (fun h7 => ?_)
      · rw [if_pos h7] at hf
        refine gr_iconst 1 X dX9_make_51 (by decide) ?_
        refine gr_goto 56 X dX9_make_52 (by decide) ?_
        exact b9_make_56 X hc hE hk0 hk1 ih _ _ _ _ _ _ hf
      · rw [if_neg h7] at hf
        refine gr_iconst 0 X dX9_make_55 (by decide) ?_
        exact b9_make_56 X hc hE hk0 hk1 ih _ _ _ _ _ _ hf

def f9_make (k0 : Nat) (k1 : Nat) (a2 : Int32) (a3 : Int32) (M0 : gz_M) : Option (gz_M) := if a2 < 0 then (some M0) else (if a3 ≤ 24 then (f9_make_16 k0 k1 gz_FU a2 a3 a3 M0) else (some M0))
set_option maxRecDepth 100000 in
theorem c9_make {pf : Nat → Bool} {l : Launch} {M0 M' : gz_M} {k0 : Nat} {k1 : Nat} {a2 : Int32} {a3 : Int32} (hk0 : gz_IsX7 pf k0) (hk1 : gz_IsX5 pf k1) (hf : f9_make k0 k1 a2 a3 M0 = some M') : gz_CV l gz_cfC yX9_make cX9_make 7 4 (fun ad => [.ref (ad 127), .ref (ad k0), .ref (ad k1), .int a2, .int a3]) pf M0 M' := by
  refine gz_ofV (by decide +kernel) (fun _ => Nat.le_of_ble_eq_true rfl) (fun x X hc hE => ?_)
  show gz_At x 0 [(0, .ref (gx_ad x 127)), (1, .ref (gx_ad x k0)), (2, .ref (gx_ad x k1)), (3, .int a2), (4, .int a3)] [] M0
  unfold f9_make at hf
  refine gr_iload_n X dX9_make_0 3 rfl rfl ?_
  refine gr_if_lt 11 X dX9_make_1 (by decide) (fun h1 => ?_) (fun h1 => ?_)
  · rw [if_pos h1] at hf
    exact gz_EVu hE hf dX9_make_11
  · rw [if_neg h1] at hf
    refine gr_iload X dX9_make_4 4 rfl ?_
    refine gr_bipush 24 X dX9_make_6 (by decide) ?_
    refine gr_icmp_le 12 X dX9_make_8 (by decide) (fun h2 => ?_) (fun h2 => ?_)
    · rw [if_pos h2] at hf
      refine gr_iload X dX9_make_12 4 rfl ?_
      refine gr_istore [(5, .int a3), (0, .ref (gx_ad x 127)), (1, .ref (gx_ad x k0)), (2, .ref (gx_ad x k1)), (3, .int a2), (4, .int a3)] X dX9_make_14 rfl (by decide) rfl ?_
      refine gr_sub (lv' := [(0, .ref (gx_ad x 127)), (1, .ref (gx_ad x k0)), (2, .ref (gx_ad x k1)), (3, .int a2), (4, .int a3), (5, .int a3)]) [1, 2, 3, 4, 5, 0] rfl ?_
      exact b9_make_16 X hc hE hk0 hk1 _ _ _ _ _ hf
    · rw [if_neg h2] at hf
      exact gz_EVu hE hf dX9_make_11

def f9_leads (a0 : Int32) (a1 : Int32) (M0 : gz_M) : Option (Int32 × gz_M) := if a0 < 0 then (some (0, M0)) else (if a1 ≤ a0 then (some (0, M0)) else (if a1 ≤ 24 then (gz_ck (gz_inb a0 25) <| if ((gz_shr (M0.1 128 a0.toNatClampNeg) a1) &&& 1) = 0 then (some (0, M0)) else (gz_ck (gz_inb a1 25) <| if (M0.1 130 a1.toNatClampNeg) = (-1) then (some (0, M0)) else (gz_ck (gz_inb a1 25) <| gz_ck (gz_inb a0 25) <| if (M0.1 130 a1.toNatClampNeg) = ((M0.1 130 a0.toNatClampNeg) - 1) then (some (1, M0)) else (some (0, M0))))) else (some (0, M0))))
set_option maxRecDepth 100000 in
theorem c9_leads {pf : Nat → Bool} {l : Launch} {r : Int32} {M0 M' : gz_M} {a0 : Int32} {a1 : Int32} (hf : f9_leads a0 a1 M0 = some (r, M')) : gz_CI l gz_cfC yX9_leads cX9_leads 3 1 .boolean (fun ad => [.ref (ad 127), .int a0, .int a1]) pf M0 r M' := by
  refine gz_ofI (by decide +kernel) (fun _ => Nat.le_of_ble_eq_true rfl) (fun x X hc hE => ?_)
  show gz_At x 0 [(0, .ref (gx_ad x 127)), (1, .int a0), (2, .int a1)] [] M0
  unfold f9_leads at hf
  refine gr_iload_n X dX9_leads_0 1 rfl rfl ?_
  refine gr_if_lt 15 X dX9_leads_1 (by decide) (fun h1 => ?_) (fun h1 => ?_)
  · rw [if_pos h1] at hf
    refine gr_iconst 0 X dX9_leads_15 (by decide) ?_
    exact gz_EIu hE hf rfl dX9_leads_16
  · rw [if_neg h1] at hf
    refine gr_iload_n X dX9_leads_4 2 rfl rfl ?_
    refine gr_iload_n X dX9_leads_5 1 rfl rfl ?_
    refine gr_icmp_le 15 X dX9_leads_6 (by decide) (fun h2 => ?_) (fun h2 => ?_)
    · rw [if_pos h2] at hf
      refine gr_iconst 0 X dX9_leads_15 (by decide) ?_
      exact gz_EIu hE hf rfl dX9_leads_16
    · rw [if_neg h2] at hf
      refine gr_iload_n X dX9_leads_9 2 rfl rfl ?_
      refine gr_bipush 24 X dX9_leads_10 (by decide) ?_
      refine gr_icmp_le 17 X dX9_leads_12 (by decide) (fun h3 => ?_) (fun h3 => ?_)
      · rw [if_pos h3] at hf
        refine gr_aload_n X dX9_leads_17 0 rfl rfl ?_
        refine gf9_0 X wf_RX9_9 dX9_leads_18 ?_
        refine gr_iload_n X dX9_leads_21 1 rfl rfl ?_
        obtain ⟨h4, hf⟩ := gz_cke hf
        refine gr_iaload X gk_C128 (gz_inp h4) dX9_leads_22 ?_
        refine gr_iload_n X dX9_leads_23 2 rfl rfl ?_
        refine gr_ishr X dX9_leads_24 ?_
        refine gr_iconst 1 X dX9_leads_25 (by decide) ?_
        refine gr_iand X dX9_leads_26 ?_
        refine gr_if_eq 61 X dX9_leads_27 (by decide) (fun h5 => ?_) (fun h5 => ?_)
        · rw [if_pos h5] at hf
          refine gr_iconst 0 X dX9_leads_61 (by decide) ?_
          exact gz_EIu hE hf rfl dX9_leads_62
        · rw [if_neg h5] at hf
          refine gr_aload_n X dX9_leads_30 0 rfl rfl ?_
          refine gf9_2 X wf_RX9_18 dX9_leads_31 ?_
          refine gr_iload_n X dX9_leads_34 2 rfl rfl ?_
          obtain ⟨h6, hf⟩ := gz_cke hf
          refine gr_iaload X gk_C130 (gz_inp h6) dX9_leads_35 ?_
          refine gr_iconst (-1) X dX9_leads_36 (by decide) ?_
          refine gr_icmp_eq 61 X dX9_leads_37 (by decide) (fun h7 => ?_) (fun h7 => ?_)
          · rw [if_pos h7] at hf
            refine gr_iconst 0 X dX9_leads_61 (by decide) ?_
            exact gz_EIu hE hf rfl dX9_leads_62
          · rw [if_neg h7] at hf
            refine gr_aload_n X dX9_leads_40 0 rfl rfl ?_
            refine gf9_2 X wf_RX9_18 dX9_leads_41 ?_
            refine gr_iload_n X dX9_leads_44 2 rfl rfl ?_
            obtain ⟨h8, hf⟩ := gz_cke hf
            refine gr_iaload X gk_C130 (gz_inp h8) dX9_leads_45 ?_
            refine gr_aload_n X dX9_leads_46 0 rfl rfl ?_
            refine gf9_2 X wf_RX9_18 dX9_leads_47 ?_
            refine gr_iload_n X dX9_leads_50 1 rfl rfl ?_
            obtain ⟨h9, hf⟩ := gz_cke hf
            refine gr_iaload X gk_C130 (gz_inp h9) dX9_leads_51 ?_
            refine gr_iconst 1 X dX9_leads_52 (by decide) ?_
            refine gr_isub X dX9_leads_53 ?_
            refine gr_icmp_ne 61 X dX9_leads_54 (by decide) (fun h10 => ?_) (fun h10 => ?_)
            · rw [if_pos h10] at hf
              refine gr_iconst 1 X dX9_leads_57 (by decide) ?_
              refine gr_goto 62 X dX9_leads_58 (by decide) ?_
              exact gz_EIu hE hf rfl dX9_leads_62
            · rw [if_neg h10] at hf
              refine gr_iconst 0 X dX9_leads_61 (by decide) ?_
              exact gz_EIu hE hf rfl dX9_leads_62
      · rw [if_neg h3] at hf
        refine gr_iconst 0 X dX9_leads_15 (by decide) ?_
        exact gz_EIu hE hf rfl dX9_leads_16

def f1_firstOf (a0 : Int32) (M0 : gz_M) : Option (Int32 × gz_M) := some (a0 &&& 1023, M0)
set_option maxRecDepth 100000 in
theorem c1_firstOf {pf : Nat → Bool} {l : Launch} {r : Int32} {M0 M' : gz_M} {a0 : Int32} (hf : f1_firstOf a0 M0 = some (r, M')) : gz_CI l gz_cfC yX1_firstOf cX1_firstOf 1 1 .int (fun _ => [.int a0]) pf M0 r M' := by
  refine gz_ofI (by decide +kernel) (fun _ => Nat.le_of_ble_eq_true rfl) (fun x X hc hE => ?_)
  show gz_At x 0 [(0, .int a0)] [] M0
  unfold f1_firstOf at hf
  refine gr_iload_n X dX1_firstOf_0 0 rfl rfl ?_
  refine gr_sipush 1023 X dX1_firstOf_1 (by decide) ?_
  refine gr_iand X dX1_firstOf_4 ?_
  exact gz_EIu hE hf rfl dX1_firstOf_5

def f1_lastOf (a0 : Int32) (M0 : gz_M) : Option (Int32 × gz_M) := some ((gz_shr a0 10) &&& 1023, M0)
set_option maxRecDepth 100000 in
theorem c1_lastOf {pf : Nat → Bool} {l : Launch} {r : Int32} {M0 M' : gz_M} {a0 : Int32} (hf : f1_lastOf a0 M0 = some (r, M')) : gz_CI l gz_cfC yX1_lastOf cX1_lastOf 1 1 .int (fun _ => [.int a0]) pf M0 r M' := by
  refine gz_ofI (by decide +kernel) (fun _ => Nat.le_of_ble_eq_true rfl) (fun x X hc hE => ?_)
  show gz_At x 0 [(0, .int a0)] [] M0
  unfold f1_lastOf at hf
  refine gr_iload_n X dX1_lastOf_0 0 rfl rfl ?_
  refine gr_bipush 10 X dX1_lastOf_1 (by decide) ?_
  refine gr_ishr X dX1_lastOf_3 ?_
  refine gr_sipush 1023 X dX1_lastOf_4 (by decide) ?_
  refine gr_iand X dX1_lastOf_7 ?_
  exact gz_EIu hE hf rfl dX1_lastOf_8

def f1_link_3 (k0 : Nat) : Nat → Int32 → Int32 → Int32 → gz_M → Option (gz_M)
  | 0, _, _, _, _ => none
  | n + 1, x2, x3, x4, M0 => if 10 ≤ x4 then (some M0) else (gz_ck (gz_inb (M0.1 4 5) 4) <| gz_ck (gz_inb x4 10) <| if ((gz_shr x2 x4) &&& 1) = 0 then (gz_ck (gz_inb x4 10) <| gz_lt (gz_w M0 ((k0 + 9) + 1 + (M0.1 4 5).toNatClampNeg) x4.toNatClampNeg ((M0.1 ((k0 + 9) + 1 + (M0.1 4 5).toNatClampNeg) x4.toNatClampNeg) ||| 0)) fun M6 => gz_lt (x4 + 1) fun v7 => f1_link_3 k0 n x2 x3 v7 M6) else (gz_ck (gz_inb x4 10) <| gz_lt (gz_w M0 ((k0 + 9) + 1 + (M0.1 4 5).toNatClampNeg) x4.toNatClampNeg ((M0.1 ((k0 + 9) + 1 + (M0.1 4 5).toNatClampNeg) x4.toNatClampNeg) ||| x3)) fun M9 => gz_lt (x4 + 1) fun v10 => f1_link_3 k0 n x2 x3 v10 M9))
theorem b1_link_3 {x : gz_X} {pf : Nat → Bool} {l : Launch} {M' : gz_M} (X : gz_Ok x cX1_link RX1 5 1 gz_cfC pf l) (hc : gx_cells x ≤ (gx_R x).cells ∧ gx_slots x ≤ (gx_R x).slots) (hE : gz_EV x cX1_link M') {k0 : Nat} (hk0 : gz_IsX7 pf k0) : ∀ (n : Nat) (x2 : Int32) (x3 : Int32) (x4 : Int32) (M0 : gz_M), f1_link_3 k0 n x2 x3 x4 M0 = some M' → gz_At x 3 [(0, .ref (gx_ad x 4)), (1, .ref (gx_ad x k0)), (2, .int x2), (3, .int x3), (4, .int x4)] [] M0 := by
  intro n
  induction n with
  | zero =>
    intro x2 x3 x4 M0  hf
    rw [f1_link_3] at hf
    cases hf
  | succ n ih =>
    intro x2 x3 x4 M0  hf
    rw [f1_link_3] at hf
    refine gr_iload X dX1_link_3 4 rfl ?_
    refine gr_bipush 10 X dX1_link_5 (by decide) ?_
    refine gr_icmp_ge 45 X dX1_link_7 (by decide) (fun h1 => ?_) (fun h1 => ?_)
    · rw [if_pos h1] at hf
      exact gz_EVu hE hf dX1_link_45
    · rw [if_neg h1] at hf
      refine gr_aload_n X dX1_link_10 1 rfl rfl ?_
      refine gf7_9 X (gk_X7o hk0) wf_RX1_128 dX1_link_11 ?_
      refine gr_aload_n X dX1_link_14 0 rfl rfl ?_
      refine gf1_5 X wf_RX1_28 dX1_link_15 ?_
      obtain ⟨h2, hf⟩ := gz_cke hf
      refine gr_aaload X (gk_X79 hk0) (gz_inp h2) dX1_link_18 ?_
      refine gr_iload X dX1_link_19 4 rfl ?_
      refine gr_dup2 X dX1_link_21 rfl rfl ?_
      obtain ⟨h3, hf⟩ := gz_cke hf
      refine gr_iaload X (gk_X79r hk0 (gz_inl (gz_inp h2))) (gz_inp h3) dX1_link_22 ?_
      refine gr_iload_n X dX1_link_23 2 rfl rfl ?_
      refine gr_iload X dX1_link_24 4 rfl ?_
      refine gr_ishr X dX1_link_26 ?_
      refine gr_iconst 1 X dX1_link_27 (by decide) ?_
      refine gr_iand X dX1_link_28 ?_
      refine gr_if_eq 36 X dX1_link_29 (by decide) (fun h4 => ?_) (fun h4 => ?_)
      · rw [if_pos h4] at hf
        refine gr_iconst 0 X dX1_link_36 (by decide) ?_
        refine gr_ior X dX1_link_37 ?_
        obtain ⟨h5, hf⟩ := gz_cke hf
        obtain ⟨M6, eM6, hf⟩ := gz_lte hf
        refine gr_iastore X (gk_X79r hk0 (gz_inl (gz_inp h2))) (gz_inp h5) eM6 dX1_link_38 ?_
        obtain ⟨v7, ev7, hf⟩ := gz_lte hf
        refine gr_iinc 1 [(4, .int v7), (0, .ref (gx_ad x 4)), (1, .ref (gx_ad x k0)), (2, .int x2), (3, .int x3)] X dX1_link_39 4 rfl (by decide) ev7 (by decide) rfl ?_
        refine gr_goto 3 X dX1_link_42 (by decide) ?_
        refine gr_sub (lv' := [(0, .ref (gx_ad x 4)), (1, .ref (gx_ad x k0)), (2, .int x2), (3, .int x3), (4, .int v7)]) [1, 2, 3, 4, 0] rfl ?_
        exact ih _ _ _ _ hf
      · rw [if_neg h4] at hf
        refine gr_iload_n X dX1_link_32 3 rfl rfl ?_
        refine gr_goto 37 X dX1_link_33 (by decide) ?_
        refine gr_ior X dX1_link_37 ?_
        obtain ⟨h8, hf⟩ := gz_cke hf
        obtain ⟨M9, eM9, hf⟩ := gz_lte hf
        refine gr_iastore X (gk_X79r hk0 (gz_inl (gz_inp h2))) (gz_inp h8) eM9 dX1_link_38 ?_
        obtain ⟨v10, ev10, hf⟩ := gz_lte hf
        refine gr_iinc 1 [(4, .int v10), (0, .ref (gx_ad x 4)), (1, .ref (gx_ad x k0)), (2, .int x2), (3, .int x3)] X dX1_link_39 4 rfl (by decide) ev10 (by decide) rfl ?_
        refine gr_goto 3 X dX1_link_42 (by decide) ?_
        refine gr_sub (lv' := [(0, .ref (gx_ad x 4)), (1, .ref (gx_ad x k0)), (2, .int x2), (3, .int x3), (4, .int v10)]) [1, 2, 3, 4, 0] rfl ?_
        exact ih _ _ _ _ hf

def f1_link (k0 : Nat) (a1 : Int32) (a2 : Int32) (M0 : gz_M) : Option (gz_M) := f1_link_3 k0 gz_FU a1 a2 0 M0
set_option maxRecDepth 100000 in
theorem c1_link {pf : Nat → Bool} {l : Launch} {M0 M' : gz_M} {k0 : Nat} {a1 : Int32} {a2 : Int32} (hk0 : gz_IsX7 pf k0) (hf : f1_link k0 a1 a2 M0 = some M') : gz_CV l gz_cfC yX1_link cX1_link 5 1 (fun ad => [.ref (ad 4), .ref (ad k0), .int a1, .int a2]) pf M0 M' := by
  refine gz_ofV (by decide +kernel) (fun _ => Nat.le_of_ble_eq_true rfl) (fun x X hc hE => ?_)
  show gz_At x 0 [(0, .ref (gx_ad x 4)), (1, .ref (gx_ad x k0)), (2, .int a1), (3, .int a2)] [] M0
  unfold f1_link at hf
  refine gr_iconst 0 X dX1_link_0 (by decide) ?_
  refine gr_istore [(4, .int 0), (0, .ref (gx_ad x 4)), (1, .ref (gx_ad x k0)), (2, .int a1), (3, .int a2)] X dX1_link_1 rfl (by decide) rfl ?_
  refine gr_sub (lv' := [(0, .ref (gx_ad x 4)), (1, .ref (gx_ad x k0)), (2, .int a1), (3, .int a2), (4, .int 0)]) [1, 2, 3, 4, 0] rfl ?_
  exact b1_link_3 X hc hE hk0 _ _ _ _ _ hf

def f1_mayBeEmpty (a0 : Int32) (M0 : gz_M) : Option (Int32 × gz_M) := if (a0 &&& 1048576) = 0 then (some (0, M0)) else (some (1, M0))
set_option maxRecDepth 100000 in
theorem c1_mayBeEmpty {pf : Nat → Bool} {l : Launch} {r : Int32} {M0 M' : gz_M} {a0 : Int32} (hf : f1_mayBeEmpty a0 M0 = some (r, M')) : gz_CI l gz_cfC yX1_mayBeEmpty cX1_mayBeEmpty 1 1 .boolean (fun _ => [.int a0]) pf M0 r M' := by
  refine gz_ofI (by decide +kernel) (fun _ => Nat.le_of_ble_eq_true rfl) (fun x X hc hE => ?_)
  show gz_At x 0 [(0, .int a0)] [] M0
  unfold f1_mayBeEmpty at hf
  refine gr_iload_n X dX1_mayBeEmpty_0 0 rfl rfl ?_
  refine gr_ldc 1048576 X dX1_mayBeEmpty_1 wk_RX1_117 ?_
  refine gr_iand X dX1_mayBeEmpty_3 ?_
  refine gr_if_eq 11 X dX1_mayBeEmpty_4 (by decide) (fun h1 => ?_) (fun h1 => ?_)
  · rw [if_pos h1] at hf
    refine gr_iconst 0 X dX1_mayBeEmpty_11 (by decide) ?_
    exact gz_EIu hE hf rfl dX1_mayBeEmpty_12
  · rw [if_neg h1] at hf
    refine gr_iconst 1 X dX1_mayBeEmpty_7 (by decide) ?_
    refine gr_goto 12 X dX1_mayBeEmpty_8 (by decide) ?_
    exact gz_EIu hE hf rfl dX1_mayBeEmpty_12

def f1_endPart_104 (k0 : Nat) (x2 : Int32) (x3 : Int32) (s0 : Int32) (s1 : Int32) (M0 : gz_M) : Option (gz_M) := gz_lt (s1 ||| s0) fun v1 => gz_ck (gz_inb (M0.1 4 2) 7) <| gz_lt (gz_w M0 5 (M0.1 4 2).toNatClampNeg ((x3 ||| (gz_shl v1 10)) ||| ((x2 &&& (M0.1 4 3)) &&& 1048576))) fun M3 => gz_lt (gz_w M3 4 3 (-1)) fun M4 => some M4
theorem b1_endPart_104 {x : gz_X} {pf : Nat → Bool} {l : Launch} {M' : gz_M} (X : gz_Ok x cX1_endPart RX1 5 2 gz_cfC pf l) (hc : gx_cells x ≤ (gx_R x).cells ∧ gx_slots x ≤ (gx_R x).slots) (hE : gz_EV x cX1_endPart M') {k0 : Nat} (hk0 : gz_IsX7 pf k0) : ∀ (x2 : Int32) (x3 : Int32) (s0 : Int32) (s1 : Int32) (M0 : gz_M), f1_endPart_104 k0 x2 x3 s0 s1 M0 = some M' → gz_At x 104 [(0, .ref (gx_ad x 4)), (2, .int x2), (3, .int x3)] [.int s0, .int s1] M0 := by
  intro x2 x3 s0 s1 M0  hf
  rw [f1_endPart_104] at hf
  refine gr_ior X dX1_endPart_104 ?_
  obtain ⟨v1, ev1, hf⟩ := gz_lte hf
  refine gr_istore [(4, .int v1), (0, .ref (gx_ad x 4)), (2, .int x2), (3, .int x3)] X dX1_endPart_105 ev1 (by decide) rfl ?_
  refine gr_aload_n X dX1_endPart_107 1 rfl rfl ?_
  refine gf1_0 X wf_RX1_9 dX1_endPart_108 ?_
  refine gr_aload_n X dX1_endPart_111 1 rfl rfl ?_
  refine gf1_2 X wf_RX1_18 dX1_endPart_112 ?_
  refine gr_iload_n X dX1_endPart_115 3 rfl rfl ?_
  refine gr_iload X dX1_endPart_116 0 rfl ?_
  refine gr_bipush 10 X dX1_endPart_118 (by decide) ?_
  refine gr_ishl X dX1_endPart_120 ?_
  refine gr_ior X dX1_endPart_121 ?_
  refine gr_iload_n X dX1_endPart_122 2 rfl rfl ?_
  refine gr_aload_n X dX1_endPart_123 1 rfl rfl ?_
  refine gf1_3 X wf_RX1_22 dX1_endPart_124 ?_
  refine gr_iand X dX1_endPart_127 ?_
  refine gr_ldc 1048576 X dX1_endPart_128 wk_RX1_117 ?_
  refine gr_iand X dX1_endPart_130 ?_
  refine gr_ior X dX1_endPart_131 ?_
  obtain ⟨h2, hf⟩ := gz_cke hf
  obtain ⟨M3, eM3, hf⟩ := gz_lte hf
  refine gr_iastore X gk_C5 (gz_inp h2) eM3 dX1_endPart_132 ?_
  refine gr_aload_n X dX1_endPart_133 1 rfl rfl ?_
  refine gr_iconst (-1) X dX1_endPart_134 (by decide) ?_
  obtain ⟨M4, eM4, hf⟩ := gz_lte hf
  refine gp1_3 X wf_RX1_22 eM4 dX1_endPart_135 ?_
  exact gz_EVu hE hf dX1_endPart_138

def f1_endPart_77 (k0 : Nat) (x2 : Int32) (s0 : Int32) (s1 : Int32) (M0 : gz_M) : Option (gz_M) := gz_lt (s1 ||| s0) fun v1 => gz_bd2 (f1_lastOf (M0.1 4 3) M0) fun v2 M3 => gz_bd2 (f1_mayBeEmpty (M3.1 4 3) M3) fun v5 M6 => if v5 = 0 then (f1_endPart_104 k0 x2 v1 0 v2 M6) else (gz_bd2 (f1_lastOf x2 M6) fun v9 M10 => f1_endPart_104 k0 x2 v1 v9 v2 M10)
theorem b1_endPart_77 {x : gz_X} {pf : Nat → Bool} {l : Launch} {M' : gz_M} (X : gz_Ok x cX1_endPart RX1 5 2 gz_cfC pf l) (hc : gx_cells x ≤ (gx_R x).cells ∧ gx_slots x ≤ (gx_R x).slots) (hE : gz_EV x cX1_endPart M') {k0 : Nat} (hk0 : gz_IsX7 pf k0) : ∀ (x2 : Int32) (s0 : Int32) (s1 : Int32) (M0 : gz_M), f1_endPart_77 k0 x2 s0 s1 M0 = some M' → gz_At x 77 [(0, .ref (gx_ad x 4)), (2, .int x2)] [.int s0, .int s1] M0 := by
  intro x2 s0 s1 M0  hf
  rw [f1_endPart_77] at hf
  refine gr_ior X dX1_endPart_77 ?_
  obtain ⟨v1, ev1, hf⟩ := gz_lte hf
  refine gr_istore_n [(3, .int v1), (0, .ref (gx_ad x 4)), (2, .int x2)] X dX1_endPart_78 ev1 rfl (by decide) rfl ?_
  refine gr_aload_n X dX1_endPart_79 1 rfl rfl ?_
  refine gf1_3 X wf_RX1_22 dX1_endPart_80 ?_
  obtain ⟨v2, M3, q4, hf⟩ := gz_bd2e hf
  refine gr_callSI (asF := fun _ => [.int (M0.1 4 3)]) [.int (M0.1 4 3)] X (c1_lastOf q4) rfl wm_RX1_94 rfl (by decide) (by decide) rfl (Nat.le_of_ble_eq_true rfl) hc dX1_endPart_83 ?_
  refine gr_aload_n X dX1_endPart_86 1 rfl rfl ?_
  refine gf1_3 X wf_RX1_22 dX1_endPart_87 ?_
  obtain ⟨v5, M6, q7, hf⟩ := gz_bd2e hf
  refine gr_callSI (asF := fun _ => [.int (M3.1 4 3)]) [.int (M3.1 4 3)] X (c1_mayBeEmpty q7) rfl wm_RX1_101 rfl (by decide) (by decide) rfl (Nat.le_of_ble_eq_true rfl) hc dX1_endPart_90 ?_
  refine gr_if_eq 103 X dX1_endPart_93 (by decide) (fun h8 => ?_) (fun h8 => ?_)
  · rw [if_pos h8] at hf
    refine gr_iconst 0 X dX1_endPart_103 (by decide) ?_
    refine gr_sub (lv' := [(0, .ref (gx_ad x 4)), (2, .int x2), (3, .int v1)]) [1, 2, 0] rfl ?_
    exact b1_endPart_104 X hc hE hk0 _ _ _ _ _ hf
  · rw [if_neg h8] at hf
    refine gr_iload_n X dX1_endPart_96 2 rfl rfl ?_
    obtain ⟨v9, M10, q11, hf⟩ := gz_bd2e hf
    refine gr_callSI (asF := fun _ => [.int x2]) [.int x2] X (c1_lastOf q11) rfl wm_RX1_94 rfl (by decide) (by decide) rfl (Nat.le_of_ble_eq_true rfl) hc dX1_endPart_97 ?_
    refine gr_goto 104 X dX1_endPart_100 (by decide) ?_
    refine gr_sub (lv' := [(0, .ref (gx_ad x 4)), (2, .int x2), (3, .int v1)]) [1, 2, 0] rfl ?_
    exact b1_endPart_104 X hc hE hk0 _ _ _ _ _ hf

def f1_endPart (k0 : Nat) (M0 : gz_M) : Option (gz_M) := gz_ck (gz_inb (M0.1 4 2) 7) <| gz_lt (M0.1 5 (M0.1 4 2).toNatClampNeg) fun v2 => if v2 = (-1) then (gz_ck (gz_inb (M0.1 4 2) 7) <| gz_lt (gz_w M0 5 (M0.1 4 2).toNatClampNeg (M0.1 4 3)) fun M5 => gz_lt (gz_w M5 4 3 (-1)) fun M6 => some M6) else (if (M0.1 4 3) = (-1) then (gz_lt (gz_w M0 4 3 (-1)) fun M8 => some M8) else (gz_bd2 (f1_lastOf v2 M0) fun v9 M10 => gz_bd2 (f1_firstOf (M10.1 4 3) M10) fun v12 M13 => gz_bd (f1_link k0 v9 v12 M13) fun M15 => gz_bd2 (f1_firstOf v2 M15) fun v17 M18 => gz_bd2 (f1_mayBeEmpty v2 M18) fun v20 M21 => if v20 = 0 then (f1_endPart_77 k0 v2 0 v17 M21) else (gz_bd2 (f1_firstOf (M21.1 4 3) M21) fun v24 M25 => f1_endPart_77 k0 v2 v24 v17 M25)))
set_option maxRecDepth 100000 in
theorem c1_endPart {pf : Nat → Bool} {l : Launch} {M0 M' : gz_M} {k0 : Nat} (hk0 : gz_IsX7 pf k0) (hf : f1_endPart k0 M0 = some M') : gz_CV l gz_cfC yX1_endPart cX1_endPart 5 2 (fun ad => [.ref (ad 4), .ref (ad k0)]) pf M0 M' := by
  refine gz_ofV (by decide +kernel) (fun _ => Nat.le_of_ble_eq_true rfl) (fun x X hc hE => ?_)
  show gz_At x 0 [(0, .ref (gx_ad x 4)), (1, .ref (gx_ad x k0))] [] M0
  unfold f1_endPart at hf
  refine gr_aload_n X dX1_endPart_0 0 rfl rfl ?_
  refine gf1_0 X wf_RX1_9 dX1_endPart_1 ?_
  refine gr_aload_n X dX1_endPart_4 0 rfl rfl ?_
  refine gf1_2 X wf_RX1_18 dX1_endPart_5 ?_
  obtain ⟨h1, hf⟩ := gz_cke hf
  refine gr_iaload X gk_C5 (gz_inp h1) dX1_endPart_8 ?_
  obtain ⟨v2, ev2, hf⟩ := gz_lte hf
  refine gr_istore_n [(2, .int v2), (0, .ref (gx_ad x 4)), (1, .ref (gx_ad x k0))] X dX1_endPart_9 ev2 rfl (by decide) rfl ?_
  refine gr_iload_n X dX1_endPart_10 0 rfl rfl ?_
  refine gr_iconst (-1) X dX1_endPart_11 (by decide) ?_
  refine gr_icmp_ne 31 X dX1_endPart_12 (by decide) (fun h3 => ?_) (fun h3 => ?_)
  · rw [if_pos h3] at hf
    refine gr_aload_n X dX1_endPart_15 1 rfl rfl ?_
    refine gf1_0 X wf_RX1_9 dX1_endPart_16 ?_
    refine gr_aload_n X dX1_endPart_19 1 rfl rfl ?_
    refine gf1_2 X wf_RX1_18 dX1_endPart_20 ?_
    refine gr_aload_n X dX1_endPart_23 1 rfl rfl ?_
    refine gf1_3 X wf_RX1_22 dX1_endPart_24 ?_
    obtain ⟨h4, hf⟩ := gz_cke hf
    obtain ⟨M5, eM5, hf⟩ := gz_lte hf
    refine gr_iastore X gk_C5 (gz_inp h4) eM5 dX1_endPart_27 ?_
    refine gr_goto 133 X dX1_endPart_28 (by decide) ?_
    refine gr_aload_n X dX1_endPart_133 1 rfl rfl ?_
    refine gr_iconst (-1) X dX1_endPart_134 (by decide) ?_
    obtain ⟨M6, eM6, hf⟩ := gz_lte hf
    refine gp1_3 X wf_RX1_22 eM6 dX1_endPart_135 ?_
    exact gz_EVu hE hf dX1_endPart_138
  · rw [if_neg h3] at hf
    refine gr_aload_n X dX1_endPart_31 1 rfl rfl ?_
    refine gf1_3 X wf_RX1_22 dX1_endPart_32 ?_
    refine gr_iconst (-1) X dX1_endPart_35 (by decide) ?_
    refine gr_icmp_eq 133 X dX1_endPart_36 (by decide) (fun h7 => ?_) (fun h7 => ?_)
    · rw [if_pos h7] at hf
      refine gr_aload_n X dX1_endPart_133 1 rfl rfl ?_
      refine gr_iconst (-1) X dX1_endPart_134 (by decide) ?_
      obtain ⟨M8, eM8, hf⟩ := gz_lte hf
      refine gp1_3 X wf_RX1_22 eM8 dX1_endPart_135 ?_
      exact gz_EVu hE hf dX1_endPart_138
    · rw [if_neg h7] at hf
      refine gr_aload_n X dX1_endPart_39 1 rfl rfl ?_
      refine gr_aload_n X dX1_endPart_40 2 rfl rfl ?_
      refine gr_iload_n X dX1_endPart_41 0 rfl rfl ?_
      obtain ⟨v9, M10, q11, hf⟩ := gz_bd2e hf
      refine gr_callSI (asF := fun _ => [.int v2]) [.int v2] X (c1_lastOf q11) rfl wm_RX1_94 rfl (by decide) (by decide) rfl (Nat.le_of_ble_eq_true rfl) hc dX1_endPart_42 ?_
      refine gr_aload_n X dX1_endPart_45 1 rfl rfl ?_
      refine gf1_3 X wf_RX1_22 dX1_endPart_46 ?_
      obtain ⟨v12, M13, q14, hf⟩ := gz_bd2e hf
      refine gr_callSI (asF := fun _ => [.int (M10.1 4 3)]) [.int (M10.1 4 3)] X (c1_firstOf q14) rfl wm_RX1_87 rfl (by decide) (by decide) rfl (Nat.le_of_ble_eq_true rfl) hc dX1_endPart_49 ?_
      obtain ⟨M15, q16, hf⟩ := gz_bde hf
      refine gr_callV (asF := fun ad => [.ref (ad 4), .ref (ad k0), .int v9, .int v12]) [.ref (gx_ad x k0), .int v9, .int v12] X (c1_link hk0 q16) rfl wm_RX1_113 rfl (X.kd gk_C4).1 ((X.kd gk_C4).2 _ _ _ _) rfl (by decide) (by decide) rfl (Nat.le_of_ble_eq_true rfl) hc dX1_endPart_52 ?_
      refine gr_iload_n X dX1_endPart_55 0 rfl rfl ?_
      obtain ⟨v17, M18, q19, hf⟩ := gz_bd2e hf
      refine gr_callSI (asF := fun _ => [.int v2]) [.int v2] X (c1_firstOf q19) rfl wm_RX1_87 rfl (by decide) (by decide) rfl (Nat.le_of_ble_eq_true rfl) hc dX1_endPart_56 ?_
      refine gr_iload_n X dX1_endPart_59 0 rfl rfl ?_
      obtain ⟨v20, M21, q22, hf⟩ := gz_bd2e hf
      refine gr_callSI (asF := fun _ => [.int v2]) [.int v2] X (c1_mayBeEmpty q22) rfl wm_RX1_101 rfl (by decide) (by decide) rfl (Nat.le_of_ble_eq_true rfl) hc dX1_endPart_60 ?_
      refine gr_if_eq 76 X dX1_endPart_63 (by decide) (fun h23 => ?_) (fun h23 => ?_)
      · rw [if_pos h23] at hf
        refine gr_iconst 0 X dX1_endPart_76 (by decide) ?_
        refine gr_sub (lv' := [(0, .ref (gx_ad x 4)), (2, .int v2)]) [1, 0] rfl ?_
        exact b1_endPart_77 X hc hE hk0 _ _ _ _ hf
      · rw [if_neg h23] at hf
        refine gr_aload_n X dX1_endPart_66 1 rfl rfl ?_
        refine gf1_3 X wf_RX1_22 dX1_endPart_67 ?_
        obtain ⟨v24, M25, q26, hf⟩ := gz_bd2e hf
        refine gr_callSI (asF := fun _ => [.int (M21.1 4 3)]) [.int (M21.1 4 3)] X (c1_firstOf q26) rfl wm_RX1_87 rfl (by decide) (by decide) rfl (Nat.le_of_ble_eq_true rfl) hc dX1_endPart_70 ?_
        refine gr_goto 77 X dX1_endPart_73 (by decide) ?_
        refine gr_sub (lv' := [(0, .ref (gx_ad x 4)), (2, .int v2)]) [1, 0] rfl ?_
        exact b1_endPart_77 X hc hE hk0 _ _ _ _ hf

def f1_addLetter_60 (k0 : Nat) : Nat → Int32 → Int32 → Int32 → gz_M → Option (gz_M)
  | 0, _, _, _, _ => none
  | n + 1, x2, x4, x5, M0 => if 8 ≤ x5 then (gz_lt (gz_w M0 4 3 (x4 ||| (gz_shl x4 10))) fun M2 => some M2) else (gz_ck (gz_inb (M0.1 4 5) 4) <| gz_ck (gz_inb x5 8) <| if x2 = 46 then (gz_ck (gz_inb x5 8) <| gz_lt (gz_w M0 ((k0 + 14) + 1 + (M0.1 4 5).toNatClampNeg) x5.toNatClampNeg ((M0.1 ((k0 + 14) + 1 + (M0.1 4 5).toNatClampNeg) x5.toNatClampNeg) ||| x4)) fun M7 => gz_lt (x5 + 1) fun v8 => f1_addLetter_60 k0 n x2 x4 v8 M7) else (if x2 = (97 + x5) then (gz_ck (gz_inb x5 8) <| gz_lt (gz_w M0 ((k0 + 14) + 1 + (M0.1 4 5).toNatClampNeg) x5.toNatClampNeg ((M0.1 ((k0 + 14) + 1 + (M0.1 4 5).toNatClampNeg) x5.toNatClampNeg) ||| x4)) fun M11 => gz_lt (x5 + 1) fun v12 => f1_addLetter_60 k0 n x2 x4 v12 M11) else (gz_ck (gz_inb x5 8) <| gz_lt (gz_w M0 ((k0 + 14) + 1 + (M0.1 4 5).toNatClampNeg) x5.toNatClampNeg ((M0.1 ((k0 + 14) + 1 + (M0.1 4 5).toNatClampNeg) x5.toNatClampNeg) ||| 0)) fun M14 => gz_lt (x5 + 1) fun v15 => f1_addLetter_60 k0 n x2 x4 v15 M14)))
theorem b1_addLetter_60 {x : gz_X} {pf : Nat → Bool} {l : Launch} {M' : gz_M} (X : gz_Ok x cX1_addLetter RX1 6 3 gz_cfC pf l) (hc : gx_cells x ≤ (gx_R x).cells ∧ gx_slots x ≤ (gx_R x).slots) (hE : gz_EV x cX1_addLetter M') {k0 : Nat} (hk0 : gz_IsX7 pf k0) : ∀ (n : Nat) (x2 : Int32) (x4 : Int32) (x5 : Int32) (M0 : gz_M), f1_addLetter_60 k0 n x2 x4 x5 M0 = some M' → gz_At x 60 [(0, .ref (gx_ad x 4)), (1, .ref (gx_ad x k0)), (2, .int x2), (4, .int x4), (5, .int x5)] [] M0 := by
  intro n
  induction n with
  | zero =>
    intro x2 x4 x5 M0  hf
    rw [f1_addLetter_60] at hf
    cases hf
  | succ n ih =>
    intro x2 x4 x5 M0  hf
    rw [f1_addLetter_60] at hf
    refine gr_iload X dX1_addLetter_60 4 rfl ?_
    refine gr_bipush 8 X dX1_addLetter_62 (by decide) ?_
    refine gr_icmp_ge 109 X dX1_addLetter_64 (by decide) (fun h1 => ?_) (fun h1 => ?_)
    · rw [if_pos h1] at hf
      refine gr_aload_n X dX1_addLetter_109 0 rfl rfl ?_
      refine gr_iload X dX1_addLetter_110 3 rfl ?_
      refine gr_iload X dX1_addLetter_112 3 rfl ?_
      refine gr_bipush 10 X dX1_addLetter_114 (by decide) ?_
      refine gr_ishl X dX1_addLetter_116 ?_
      refine gr_ior X dX1_addLetter_117 ?_
      obtain ⟨M2, eM2, hf⟩ := gz_lte hf
      refine gp1_3 X wf_RX1_22 eM2 dX1_addLetter_118 ?_
      exact gz_EVu hE hf dX1_addLetter_121
    · rw [if_neg h1] at hf
      refine gr_aload_n X dX1_addLetter_67 1 rfl rfl ?_
      refine gf7_10 X (gk_X7o hk0) wf_RX1_124 dX1_addLetter_68 ?_
      refine gr_aload_n X dX1_addLetter_71 0 rfl rfl ?_
      refine gf1_5 X wf_RX1_28 dX1_addLetter_72 ?_
      obtain ⟨h3, hf⟩ := gz_cke hf
      refine gr_aaload X (gk_X714 hk0) (gz_inp h3) dX1_addLetter_75 ?_
      refine gr_iload X dX1_addLetter_76 4 rfl ?_
      refine gr_dup2 X dX1_addLetter_78 rfl rfl ?_
      obtain ⟨h4, hf⟩ := gz_cke hf
      refine gr_iaload X (gk_X714r hk0 (gz_inl (gz_inp h3))) (gz_inp h4) dX1_addLetter_79 ?_
      refine gr_iload_n X dX1_addLetter_80 2 rfl rfl ?_
      refine gr_bipush 46 X dX1_addLetter_81 (by decide) ?_
      refine gr_icmp_eq 95 X dX1_addLetter_83 (by decide) (fun h5 => ?_) (fun h5 => ?_)
      · rw [if_pos h5] at hf
        refine gr_iload X dX1_addLetter_95 3 rfl ?_
        refine gr_goto 101 X dX1_addLetter_97 (by decide) ?_
        refine gr_ior X dX1_addLetter_101 ?_
        obtain ⟨h6, hf⟩ := gz_cke hf
        obtain ⟨M7, eM7, hf⟩ := gz_lte hf
        refine gr_iastore X (gk_X714r hk0 (gz_inl (gz_inp h3))) (gz_inp h6) eM7 dX1_addLetter_102 ?_
        obtain ⟨v8, ev8, hf⟩ := gz_lte hf
        refine gr_iinc 1 [(5, .int v8), (0, .ref (gx_ad x 4)), (1, .ref (gx_ad x k0)), (2, .int x2), (4, .int x4)] X dX1_addLetter_103 4 rfl (by decide) ev8 (by decide) rfl ?_
        refine gr_goto 60 X dX1_addLetter_106 (by decide) ?_
        refine gr_sub (lv' := [(0, .ref (gx_ad x 4)), (1, .ref (gx_ad x k0)), (2, .int x2), (4, .int x4), (5, .int v8)]) [1, 2, 3, 4, 0] rfl ?_
        exact ih _ _ _ _ hf
      · rw [if_neg h5] at hf
        refine gr_iload_n X dX1_addLetter_86 2 rfl rfl ?_
        refine gr_bipush 97 X dX1_addLetter_87 (by decide) ?_
        refine gr_iload X dX1_addLetter_89 4 rfl ?_
        refine gr_iadd X dX1_addLetter_91 ?_
        refine gr_icmp_ne 100 X dX1_addLetter_92 (by decide) (fun h9 => ?_) (fun h9 => ?_)
        · rw [if_pos h9] at hf
          refine gr_iload X dX1_addLetter_95 3 rfl ?_
          refine gr_goto 101 X dX1_addLetter_97 (by decide) ?_
          refine gr_ior X dX1_addLetter_101 ?_
          obtain ⟨h10, hf⟩ := gz_cke hf
          obtain ⟨M11, eM11, hf⟩ := gz_lte hf
          refine gr_iastore X (gk_X714r hk0 (gz_inl (gz_inp h3))) (gz_inp h10) eM11 dX1_addLetter_102 ?_
          obtain ⟨v12, ev12, hf⟩ := gz_lte hf
          refine gr_iinc 1 [(5, .int v12), (0, .ref (gx_ad x 4)), (1, .ref (gx_ad x k0)), (2, .int x2), (4, .int x4)] X dX1_addLetter_103 4 rfl (by decide) ev12 (by decide) rfl ?_
          refine gr_goto 60 X dX1_addLetter_106 (by decide) ?_
          refine gr_sub (lv' := [(0, .ref (gx_ad x 4)), (1, .ref (gx_ad x k0)), (2, .int x2), (4, .int x4), (5, .int v12)]) [1, 2, 3, 4, 0] rfl ?_
          exact ih _ _ _ _ hf
        · rw [if_neg h9] at hf
          refine gr_iconst 0 X dX1_addLetter_100 (by decide) ?_
          refine gr_ior X dX1_addLetter_101 ?_
          obtain ⟨h13, hf⟩ := gz_cke hf
          obtain ⟨M14, eM14, hf⟩ := gz_lte hf
          refine gr_iastore X (gk_X714r hk0 (gz_inl (gz_inp h3))) (gz_inp h13) eM14 dX1_addLetter_102 ?_
          obtain ⟨v15, ev15, hf⟩ := gz_lte hf
          refine gr_iinc 1 [(5, .int v15), (0, .ref (gx_ad x 4)), (1, .ref (gx_ad x k0)), (2, .int x2), (4, .int x4)] X dX1_addLetter_103 4 rfl (by decide) ev15 (by decide) rfl ?_
          refine gr_goto 60 X dX1_addLetter_106 (by decide) ?_
          refine gr_sub (lv' := [(0, .ref (gx_ad x 4)), (1, .ref (gx_ad x k0)), (2, .int x2), (4, .int x4), (5, .int v15)]) [1, 2, 3, 4, 0] rfl ?_
          exact ih _ _ _ _ hf

def f1_addLetter (k0 : Nat) (a1 : Int32) (M0 : gz_M) : Option (gz_M) := gz_bd (f1_endPart k0 M0) fun M1 => gz_ck (gz_inb (M1.1 4 5) 4) <| gz_lt (M1.1 (k0 + 7) (M1.1 4 5).toNatClampNeg) fun v4 => if v4 < 0 then (some M1) else (if v4 < 10 then (gz_lt (M1.1 4 5) fun v7 => gz_ck (gz_inb v7 4) <| gz_ck (gz_inb v7 4) <| gz_lt (gz_w M1 (k0 + 7) v7.toNatClampNeg ((M1.1 (k0 + 7) v7.toNatClampNeg) + 1)) fun M10 => gz_lt (M10.1 4 4) fun v11 => gz_ck (gz_inb v11 8) <| gz_ck (gz_inb v11 8) <| gz_lt (gz_w M10 (k0 + 2) v11.toNatClampNeg ((M10.1 (k0 + 2) v11.toNatClampNeg) + 1)) fun M14 => gz_lt (gz_shl 1 v4) fun v15 => f1_addLetter_60 k0 gz_FU a1 v15 0 M14) else (some M1))
set_option maxRecDepth 100000 in
theorem c1_addLetter {pf : Nat → Bool} {l : Launch} {M0 M' : gz_M} {k0 : Nat} {a1 : Int32} (hk0 : gz_IsX7 pf k0) (hf : f1_addLetter k0 a1 M0 = some M') : gz_CV l gz_cfC yX1_addLetter cX1_addLetter 6 3 (fun ad => [.ref (ad 4), .ref (ad k0), .int a1]) pf M0 M' := by
  refine gz_ofV (by decide +kernel) (fun _ => Nat.le_of_ble_eq_true rfl) (fun x X hc hE => ?_)
  show gz_At x 0 [(0, .ref (gx_ad x 4)), (1, .ref (gx_ad x k0)), (2, .int a1)] [] M0
  unfold f1_addLetter at hf
  refine gr_aload_n X dX1_addLetter_0 0 rfl rfl ?_
  refine gr_aload_n X dX1_addLetter_1 1 rfl rfl ?_
  obtain ⟨M1, q2, hf⟩ := gz_bde hf
  refine gr_callV (asF := fun ad => [.ref (ad 4), .ref (ad k0)]) [.ref (gx_ad x k0)] X (c1_endPart hk0 q2) rfl wm_RX1_104 rfl (X.kd gk_C4).1 ((X.kd gk_C4).2 _ _ _ _) rfl (by decide) (by decide) rfl (Nat.le_of_ble_eq_true rfl) hc dX1_addLetter_2 ?_
  refine gr_aload_n X dX1_addLetter_5 1 rfl rfl ?_
  refine gf7_7 X (gk_X7o hk0) wf_RX1_121 dX1_addLetter_6 ?_
  refine gr_aload_n X dX1_addLetter_9 0 rfl rfl ?_
  refine gf1_5 X wf_RX1_28 dX1_addLetter_10 ?_
  obtain ⟨h3, hf⟩ := gz_cke hf
  refine gr_iaload X (gk_X77 hk0) (gz_inp h3) dX1_addLetter_13 ?_
  obtain ⟨v4, ev4, hf⟩ := gz_lte hf
  refine gr_istore_n [(3, .int v4), (0, .ref (gx_ad x 4)), (1, .ref (gx_ad x k0)), (2, .int a1)] X dX1_addLetter_14 ev4 rfl (by decide) rfl ?_
  refine gr_iload_n X dX1_addLetter_15 0 rfl rfl ?_
  refine gr_if_lt 25 X dX1_addLetter_16 (by decide) (fun h5 => ?_) (fun h5 => ?_)
  · rw [if_pos h5] at hf
    exact gz_EVu hE hf dX1_addLetter_25
  · rw [if_neg h5] at hf
    refine gr_iload_n X dX1_addLetter_19 0 rfl rfl ?_
    refine gr_bipush 10 X dX1_addLetter_20 (by decide) ?_
    refine gr_icmp_lt 26 X dX1_addLetter_22 (by decide) (fun h6 => ?_) (fun h6 => ?_)
    · rw [if_pos h6] at hf
      refine gr_aload_n X dX1_addLetter_26 2 rfl rfl ?_
      refine gf7_7 X (gk_X7o hk0) wf_RX1_121 dX1_addLetter_27 ?_
      refine gr_aload_n X dX1_addLetter_30 1 rfl rfl ?_
      refine gf1_5 X wf_RX1_28 dX1_addLetter_31 ?_
      obtain ⟨v7, ev7, hf⟩ := gz_lte hf
      refine gr_top ev7 ?_
      refine gr_dup2 X dX1_addLetter_34 rfl rfl ?_
      obtain ⟨h8, hf⟩ := gz_cke hf
      refine gr_iaload X (gk_X77 hk0) (gz_inp h8) dX1_addLetter_35 ?_
      refine gr_iconst 1 X dX1_addLetter_36 (by decide) ?_
      refine gr_iadd X dX1_addLetter_37 ?_
      obtain ⟨h9, hf⟩ := gz_cke hf
      obtain ⟨M10, eM10, hf⟩ := gz_lte hf
      refine gr_iastore X (gk_X77 hk0) (gz_inp h9) eM10 dX1_addLetter_38 ?_
      refine gr_aload_n X dX1_addLetter_39 2 rfl rfl ?_
      refine gf7_2 X (gk_X7o hk0) wf_RX1_72 dX1_addLetter_40 ?_
      refine gr_aload_n X dX1_addLetter_43 1 rfl rfl ?_
      refine gf1_4 X wf_RX1_25 dX1_addLetter_44 ?_
      obtain ⟨v11, ev11, hf⟩ := gz_lte hf
      refine gr_top ev11 ?_
      refine gr_dup2 X dX1_addLetter_47 rfl rfl ?_
      obtain ⟨h12, hf⟩ := gz_cke hf
      refine gr_iaload X (gk_X72 hk0) (gz_inp h12) dX1_addLetter_48 ?_
      refine gr_iconst 1 X dX1_addLetter_49 (by decide) ?_
      refine gr_iadd X dX1_addLetter_50 ?_
      obtain ⟨h13, hf⟩ := gz_cke hf
      obtain ⟨M14, eM14, hf⟩ := gz_lte hf
      refine gr_iastore X (gk_X72 hk0) (gz_inp h13) eM14 dX1_addLetter_51 ?_
      refine gr_iconst 1 X dX1_addLetter_52 (by decide) ?_
      refine gr_iload_n X dX1_addLetter_53 0 rfl rfl ?_
      refine gr_ishl X dX1_addLetter_54 ?_
      obtain ⟨v15, ev15, hf⟩ := gz_lte hf
      refine gr_istore [(4, .int v15), (3, .int v4), (0, .ref (gx_ad x 4)), (1, .ref (gx_ad x k0)), (2, .int a1)] X dX1_addLetter_55 ev15 (by decide) rfl ?_
      refine gr_iconst 0 X dX1_addLetter_57 (by decide) ?_
      refine gr_istore [(5, .int 0), (4, .int v15), (3, .int v4), (0, .ref (gx_ad x 4)), (1, .ref (gx_ad x k0)), (2, .int a1)] X dX1_addLetter_58 rfl (by decide) rfl ?_
      refine gr_sub (lv' := [(0, .ref (gx_ad x 4)), (1, .ref (gx_ad x k0)), (2, .int a1), (4, .int v15), (5, .int 0)]) [3, 4, 5, 1, 0] rfl ?_
      exact b1_addLetter_60 X hc hE hk0 _ _ _ _ _ hf
    · rw [if_neg h6] at hf
      exact gz_EVu hE hf dX1_addLetter_25

def f1_beginRule_35 (k0 : Nat) (s0 : Int32) (M0 : gz_M) : Option (gz_M) := gz_lt (gz_w M0 4 5 s0) fun M1 => gz_ck (gz_inb (M1.1 4 4) 8) <| gz_lt (gz_w M1 (k0 + 1) (M1.1 4 4).toNatClampNeg (M1.1 4 5)) fun M3 => gz_ck (gz_inb (M3.1 4 4) 8) <| gz_lt (gz_w M3 (k0 + 2) (M3.1 4 4).toNatClampNeg 0) fun M5 => gz_ck (gz_inb (M5.1 4 4) 8) <| gz_lt (gz_w M5 (k0 + 3) (M5.1 4 4).toNatClampNeg 0) fun M7 => gz_ck (gz_inb (M7.1 4 4) 8) <| gz_lt (gz_w M7 (k0 + 4) (M7.1 4 4).toNatClampNeg (-1)) fun M9 => gz_lt (gz_w M9 4 2 0) fun M10 => gz_lt (gz_w M10 4 3 (-1)) fun M11 => gz_ck (gz_inb 0 7) <| gz_lt (gz_w M11 5 (0 : Int32).toNatClampNeg (-1)) fun M13 => gz_ck (gz_inb 0 7) <| gz_lt (gz_w M13 6 (0 : Int32).toNatClampNeg (-1)) fun M15 => some M15
theorem b1_beginRule_35 {x : gz_X} {pf : Nat → Bool} {l : Launch} {M' : gz_M} (X : gz_Ok x cX1_beginRule RX1 3 2 gz_cfC pf l) (hc : gx_cells x ≤ (gx_R x).cells ∧ gx_slots x ≤ (gx_R x).slots) (hE : gz_EV x cX1_beginRule M') {k0 : Nat} (hk0 : gz_IsX7 pf k0) : ∀ (s0 : Int32) (M0 : gz_M), f1_beginRule_35 k0 s0 M0 = some M' → gz_At x 35 [(0, .ref (gx_ad x 4)), (1, .ref (gx_ad x k0))] [.int s0, .ref (gx_ad x 4)] M0 := by
  intro s0 M0  hf
  rw [f1_beginRule_35] at hf
  obtain ⟨M1, eM1, hf⟩ := gz_lte hf
  refine gp1_5 X wf_RX1_28 eM1 dX1_beginRule_35 ?_
  refine gr_aload_n X dX1_beginRule_38 1 rfl rfl ?_
  refine gf7_1 X (gk_X7o hk0) wf_RX1_70 dX1_beginRule_39 ?_
  refine gr_aload_n X dX1_beginRule_42 0 rfl rfl ?_
  refine gf1_4 X wf_RX1_25 dX1_beginRule_43 ?_
  refine gr_aload_n X dX1_beginRule_46 0 rfl rfl ?_
  refine gf1_5 X wf_RX1_28 dX1_beginRule_47 ?_
  obtain ⟨h2, hf⟩ := gz_cke hf
  obtain ⟨M3, eM3, hf⟩ := gz_lte hf
  refine gr_iastore X (gk_X71 hk0) (gz_inp h2) eM3 dX1_beginRule_50 ?_
  refine gr_aload_n X dX1_beginRule_51 1 rfl rfl ?_
  refine gf7_2 X (gk_X7o hk0) wf_RX1_72 dX1_beginRule_52 ?_
  refine gr_aload_n X dX1_beginRule_55 0 rfl rfl ?_
  refine gf1_4 X wf_RX1_25 dX1_beginRule_56 ?_
  refine gr_iconst 0 X dX1_beginRule_59 (by decide) ?_
  obtain ⟨h4, hf⟩ := gz_cke hf
  obtain ⟨M5, eM5, hf⟩ := gz_lte hf
  refine gr_iastore X (gk_X72 hk0) (gz_inp h4) eM5 dX1_beginRule_60 ?_
  refine gr_aload_n X dX1_beginRule_61 1 rfl rfl ?_
  refine gf7_3 X (gk_X7o hk0) wf_RX1_75 dX1_beginRule_62 ?_
  refine gr_aload_n X dX1_beginRule_65 0 rfl rfl ?_
  refine gf1_4 X wf_RX1_25 dX1_beginRule_66 ?_
  refine gr_iconst 0 X dX1_beginRule_69 (by decide) ?_
  obtain ⟨h6, hf⟩ := gz_cke hf
  obtain ⟨M7, eM7, hf⟩ := gz_lte hf
  refine gr_iastore X (gk_X73 hk0) (gz_inp h6) eM7 dX1_beginRule_70 ?_
  refine gr_aload_n X dX1_beginRule_71 1 rfl rfl ?_
  refine gf7_4 X (gk_X7o hk0) wf_RX1_78 dX1_beginRule_72 ?_
  refine gr_aload_n X dX1_beginRule_75 0 rfl rfl ?_
  refine gf1_4 X wf_RX1_25 dX1_beginRule_76 ?_
  refine gr_iconst (-1) X dX1_beginRule_79 (by decide) ?_
  obtain ⟨h8, hf⟩ := gz_cke hf
  obtain ⟨M9, eM9, hf⟩ := gz_lte hf
  refine gr_iastore X (gk_X74 hk0) (gz_inp h8) eM9 dX1_beginRule_80 ?_
  refine gr_aload_n X dX1_beginRule_81 0 rfl rfl ?_
  refine gr_iconst 0 X dX1_beginRule_82 (by decide) ?_
  obtain ⟨M10, eM10, hf⟩ := gz_lte hf
  refine gp1_2 X wf_RX1_18 eM10 dX1_beginRule_83 ?_
  refine gr_aload_n X dX1_beginRule_86 0 rfl rfl ?_
  refine gr_iconst (-1) X dX1_beginRule_87 (by decide) ?_
  obtain ⟨M11, eM11, hf⟩ := gz_lte hf
  refine gp1_3 X wf_RX1_22 eM11 dX1_beginRule_88 ?_
  refine gr_aload_n X dX1_beginRule_91 0 rfl rfl ?_
  refine gf1_0 X wf_RX1_9 dX1_beginRule_92 ?_
  refine gr_iconst 0 X dX1_beginRule_95 (by decide) ?_
  refine gr_iconst (-1) X dX1_beginRule_96 (by decide) ?_
  obtain ⟨h12, hf⟩ := gz_cke hf
  obtain ⟨M13, eM13, hf⟩ := gz_lte hf
  refine gr_iastore X gk_C5 (gz_inp h12) eM13 dX1_beginRule_97 ?_
  refine gr_aload_n X dX1_beginRule_98 0 rfl rfl ?_
  refine gf1_1 X wf_RX1_15 dX1_beginRule_99 ?_
  refine gr_iconst 0 X dX1_beginRule_102 (by decide) ?_
  refine gr_iconst (-1) X dX1_beginRule_103 (by decide) ?_
  obtain ⟨h14, hf⟩ := gz_cke hf
  obtain ⟨M15, eM15, hf⟩ := gz_lte hf
  refine gr_iastore X gk_C6 (gz_inp h14) eM15 dX1_beginRule_104 ?_
  exact gz_EVu hE hf dX1_beginRule_105

def f1_beginRule_19 (k0 : Nat) (x2 : Int32) (s0 : Int32) (M0 : gz_M) : Option (gz_M) := gz_lt (gz_w M0 4 4 s0) fun M1 => gz_bd2 (f11_isMode x2 M1) fun v2 M3 => if v2 = 0 then (f1_beginRule_35 k0 0 M3) else (f1_beginRule_35 k0 x2 M3)
theorem b1_beginRule_19 {x : gz_X} {pf : Nat → Bool} {l : Launch} {M' : gz_M} (X : gz_Ok x cX1_beginRule RX1 3 2 gz_cfC pf l) (hc : gx_cells x ≤ (gx_R x).cells ∧ gx_slots x ≤ (gx_R x).slots) (hE : gz_EV x cX1_beginRule M') {k0 : Nat} (hk0 : gz_IsX7 pf k0) : ∀ (x2 : Int32) (s0 : Int32) (M0 : gz_M), f1_beginRule_19 k0 x2 s0 M0 = some M' → gz_At x 19 [(0, .ref (gx_ad x 4)), (1, .ref (gx_ad x k0)), (2, .int x2)] [.int s0, .ref (gx_ad x 4)] M0 := by
  intro x2 s0 M0  hf
  rw [f1_beginRule_19] at hf
  obtain ⟨M1, eM1, hf⟩ := gz_lte hf
  refine gp1_4 X wf_RX1_25 eM1 dX1_beginRule_19 ?_
  refine gr_aload_n X dX1_beginRule_22 0 rfl rfl ?_
  refine gr_iload_n X dX1_beginRule_23 2 rfl rfl ?_
  obtain ⟨v2, M3, q4, hf⟩ := gz_bd2e hf
  refine gr_callSI (asF := fun _ => [.int x2]) [.int x2] X (c11_isMode q4) rfl wm_RX1_67 rfl (by decide) (by decide) rfl (Nat.le_of_ble_eq_true rfl) hc dX1_beginRule_24 ?_
  refine gr_if_eq 34 X dX1_beginRule_27 (by decide) (fun h5 => ?_) (fun h5 => ?_)
  · rw [if_pos h5] at hf
    refine gr_iconst 0 X dX1_beginRule_34 (by decide) ?_
    refine gr_sub (lv' := [(0, .ref (gx_ad x 4)), (1, .ref (gx_ad x k0))]) [0, 1] rfl ?_
    exact b1_beginRule_35 X hc hE hk0 _ _ hf
  · rw [if_neg h5] at hf
    refine gr_iload_n X dX1_beginRule_30 2 rfl rfl ?_
    refine gr_goto 35 X dX1_beginRule_31 (by decide) ?_
    refine gr_sub (lv' := [(0, .ref (gx_ad x 4)), (1, .ref (gx_ad x k0))]) [0, 1] rfl ?_
    exact b1_beginRule_35 X hc hE hk0 _ _ hf

def f1_beginRule (k0 : Nat) (a1 : Int32) (M0 : gz_M) : Option (gz_M) := if 8 ≤ (M0.1 k0 0) then (f1_beginRule_19 k0 a1 7 M0) else (f1_beginRule_19 k0 a1 (M0.1 k0 0) M0)
set_option maxRecDepth 100000 in
theorem c1_beginRule {pf : Nat → Bool} {l : Launch} {M0 M' : gz_M} {k0 : Nat} {a1 : Int32} (hk0 : gz_IsX7 pf k0) (hf : f1_beginRule k0 a1 M0 = some M') : gz_CV l gz_cfC yX1_beginRule cX1_beginRule 3 2 (fun ad => [.ref (ad 4), .ref (ad k0), .int a1]) pf M0 M' := by
  refine gz_ofV (by decide +kernel) (fun _ => Nat.le_of_ble_eq_true rfl) (fun x X hc hE => ?_)
  show gz_At x 0 [(0, .ref (gx_ad x 4)), (1, .ref (gx_ad x k0)), (2, .int a1)] [] M0
  unfold f1_beginRule at hf
  refine gr_aload_n X dX1_beginRule_0 0 rfl rfl ?_
  refine gr_aload_n X dX1_beginRule_1 1 rfl rfl ?_
  refine gf7_0 X (gk_X7o hk0) wf_RX1_64 dX1_beginRule_2 ?_
  refine gr_bipush 8 X dX1_beginRule_5 (by decide) ?_
  refine gr_icmp_ge 17 X dX1_beginRule_7 (by decide) (fun h1 => ?_) (fun h1 => ?_)
  · rw [if_pos h1] at hf
    refine gr_bipush 7 X dX1_beginRule_17 (by decide) ?_
    exact b1_beginRule_19 X hc hE hk0 _ _ _ hf
  · rw [if_neg h1] at hf
    refine gr_aload_n X dX1_beginRule_10 1 rfl rfl ?_
    refine gf7_0 X (gk_X7o hk0) wf_RX1_64 dX1_beginRule_11 ?_
    refine gr_goto 19 X dX1_beginRule_14 (by decide) ?_
    exact b1_beginRule_19 X hc hE hk0 _ _ _ hf

def f1_endChain_45 (k0 : Nat) (s0 : Int32) (s1 : Int32) (M0 : gz_M) : Option (gz_M) := gz_ck (gz_inb s1 7) <| gz_lt (gz_w M0 6 s1.toNatClampNeg s0) fun M2 => gz_ck (gz_inb (M2.1 4 2) 7) <| gz_lt (gz_w M2 5 (M2.1 4 2).toNatClampNeg (-1)) fun M4 => some M4
theorem b1_endChain_45 {x : gz_X} {pf : Nat → Bool} {l : Launch} {M' : gz_M} (X : gz_Ok x cX1_endChain RX1 4 3 gz_cfC pf l) (hc : gx_cells x ≤ (gx_R x).cells ∧ gx_slots x ≤ (gx_R x).slots) (hE : gz_EV x cX1_endChain M') {k0 : Nat} (hk0 : gz_IsX7 pf k0) : ∀ (s0 : Int32) (s1 : Int32) (M0 : gz_M), f1_endChain_45 k0 s0 s1 M0 = some M' → gz_At x 45 [(0, .ref (gx_ad x 4))] [.int s0, .int s1, .ref (gx_ad x 6)] M0 := by
  intro s0 s1 M0  hf
  rw [f1_endChain_45] at hf
  obtain ⟨h1, hf⟩ := gz_cke hf
  obtain ⟨M2, eM2, hf⟩ := gz_lte hf
  refine gr_iastore X gk_C6 (gz_inp h1) eM2 dX1_endChain_45 ?_
  refine gr_aload_n X dX1_endChain_46 0 rfl rfl ?_
  refine gf1_0 X wf_RX1_9 dX1_endChain_47 ?_
  refine gr_aload_n X dX1_endChain_50 0 rfl rfl ?_
  refine gf1_2 X wf_RX1_18 dX1_endChain_51 ?_
  refine gr_iconst (-1) X dX1_endChain_54 (by decide) ?_
  obtain ⟨h3, hf⟩ := gz_cke hf
  obtain ⟨M4, eM4, hf⟩ := gz_lte hf
  refine gr_iastore X gk_C5 (gz_inp h3) eM4 dX1_endChain_55 ?_
  exact gz_EVu hE hf dX1_endChain_56

def f1_endChain (k0 : Nat) (M0 : gz_M) : Option (gz_M) := gz_bd (f1_endPart k0 M0) fun M1 => gz_ck (gz_inb (M1.1 4 2) 7) <| gz_lt (M1.1 5 (M1.1 4 2).toNatClampNeg) fun v4 => gz_ck (gz_inb (M1.1 4 2) 7) <| gz_lt (M1.1 6 (M1.1 4 2).toNatClampNeg) fun v6 => if v6 = (-1) then (f1_endChain_45 k0 v4 (M1.1 4 2) M1) else (f1_endChain_45 k0 (v6 ||| v4) (M1.1 4 2) M1)
set_option maxRecDepth 100000 in
theorem c1_endChain {pf : Nat → Bool} {l : Launch} {M0 M' : gz_M} {k0 : Nat} (hk0 : gz_IsX7 pf k0) (hf : f1_endChain k0 M0 = some M') : gz_CV l gz_cfC yX1_endChain cX1_endChain 4 3 (fun ad => [.ref (ad 4), .ref (ad k0)]) pf M0 M' := by
  refine gz_ofV (by decide +kernel) (fun _ => Nat.le_of_ble_eq_true rfl) (fun x X hc hE => ?_)
  show gz_At x 0 [(0, .ref (gx_ad x 4)), (1, .ref (gx_ad x k0))] [] M0
  unfold f1_endChain at hf
  refine gr_aload_n X dX1_endChain_0 0 rfl rfl ?_
  refine gr_aload_n X dX1_endChain_1 1 rfl rfl ?_
  obtain ⟨M1, q2, hf⟩ := gz_bde hf
  refine gr_callV (asF := fun ad => [.ref (ad 4), .ref (ad k0)]) [.ref (gx_ad x k0)] X (c1_endPart hk0 q2) rfl wm_RX1_104 rfl (X.kd gk_C4).1 ((X.kd gk_C4).2 _ _ _ _) rfl (by decide) (by decide) rfl (Nat.le_of_ble_eq_true rfl) hc dX1_endChain_2 ?_
  refine gr_aload_n X dX1_endChain_5 0 rfl rfl ?_
  refine gf1_0 X wf_RX1_9 dX1_endChain_6 ?_
  refine gr_aload_n X dX1_endChain_9 0 rfl rfl ?_
  refine gf1_2 X wf_RX1_18 dX1_endChain_10 ?_
  obtain ⟨h3, hf⟩ := gz_cke hf
  refine gr_iaload X gk_C5 (gz_inp h3) dX1_endChain_13 ?_
  obtain ⟨v4, ev4, hf⟩ := gz_lte hf
  refine gr_istore_n [(2, .int v4), (0, .ref (gx_ad x 4)), (1, .ref (gx_ad x k0))] X dX1_endChain_14 ev4 rfl (by decide) rfl ?_
  refine gr_aload_n X dX1_endChain_15 1 rfl rfl ?_
  refine gf1_1 X wf_RX1_15 dX1_endChain_16 ?_
  refine gr_aload_n X dX1_endChain_19 1 rfl rfl ?_
  refine gf1_2 X wf_RX1_18 dX1_endChain_20 ?_
  obtain ⟨h5, hf⟩ := gz_cke hf
  refine gr_iaload X gk_C6 (gz_inp h5) dX1_endChain_23 ?_
  obtain ⟨v6, ev6, hf⟩ := gz_lte hf
  refine gr_istore_n [(3, .int v6), (2, .int v4), (0, .ref (gx_ad x 4)), (1, .ref (gx_ad x k0))] X dX1_endChain_24 ev6 rfl (by decide) rfl ?_
  refine gr_aload_n X dX1_endChain_25 2 rfl rfl ?_
  refine gf1_1 X wf_RX1_15 dX1_endChain_26 ?_
  refine gr_aload_n X dX1_endChain_29 2 rfl rfl ?_
  refine gf1_2 X wf_RX1_18 dX1_endChain_30 ?_
  refine gr_iload_n X dX1_endChain_33 0 rfl rfl ?_
  refine gr_iconst (-1) X dX1_endChain_34 (by decide) ?_
  refine gr_icmp_ne 42 X dX1_endChain_35 (by decide) (fun h7 => ?_) (fun h7 => ?_)
  · rw [if_pos h7] at hf
    refine gr_iload_n X dX1_endChain_38 1 rfl rfl ?_
    refine gr_goto 45 X dX1_endChain_39 (by decide) ?_
    refine gr_sub (lv' := [(0, .ref (gx_ad x 4))]) [2] rfl ?_
    exact b1_endChain_45 X hc hE hk0 _ _ _ hf
  · rw [if_neg h7] at hf
    refine gr_iload_n X dX1_endChain_42 0 rfl rfl ?_
    refine gr_iload_n X dX1_endChain_43 1 rfl rfl ?_
    refine gr_ior X dX1_endChain_44 ?_
    refine gr_sub (lv' := [(0, .ref (gx_ad x 4))]) [2] rfl ?_
    exact b1_endChain_45 X hc hE hk0 _ _ _ hf

def f1_endRule (k0 : Nat) (M0 : gz_M) : Option (gz_M) := gz_bd (f1_endChain k0 M0) fun M1 => gz_ck (gz_inb 0 7) <| gz_lt (M1.1 6 (0 : Int32).toNatClampNeg) fun v4 => gz_lt (M1.1 4 5) fun v5 => gz_ck (gz_inb v5 4) <| gz_bd2 (f1_firstOf v4 M1) fun v7 M8 => gz_ck (gz_inb v5 4) <| gz_lt (gz_w M8 (k0 + 8) v5.toNatClampNeg ((M1.1 (k0 + 8) v5.toNatClampNeg) ||| v7)) fun M11 => gz_bd2 (f1_lastOf v4 M11) fun v12 M13 => gz_ck (gz_inb (M11.1 4 4) 8) <| gz_lt (gz_w M13 (k0 + 5) (M11.1 4 4).toNatClampNeg v12) fun M16 => gz_bd2 (f1_mayBeEmpty v4 M16) fun v17 M18 => gz_ck (gz_inb (M16.1 4 4) 8) <| gz_lt (gz_w M18 (k0 + 6) (M16.1 4 4).toNatClampNeg (vp_nar .boolean v17)) fun M21 => gz_lt (gz_w M21 k0 0 ((M21.1 4 4) + 1)) fun M22 => some M22
set_option maxRecDepth 100000 in
theorem c1_endRule {pf : Nat → Bool} {l : Launch} {M0 M' : gz_M} {k0 : Nat} (hk0 : gz_IsX7 pf k0) (hf : f1_endRule k0 M0 = some M') : gz_CV l gz_cfC yX1_endRule cX1_endRule 3 4 (fun ad => [.ref (ad 4), .ref (ad k0)]) pf M0 M' := by
  refine gz_ofV (by decide +kernel) (fun _ => Nat.le_of_ble_eq_true rfl) (fun x X hc hE => ?_)
  show gz_At x 0 [(0, .ref (gx_ad x 4)), (1, .ref (gx_ad x k0))] [] M0
  unfold f1_endRule at hf
  refine gr_aload_n X dX1_endRule_0 0 rfl rfl ?_
  refine gr_aload_n X dX1_endRule_1 1 rfl rfl ?_
  obtain ⟨M1, q2, hf⟩ := gz_bde hf
  refine gr_callV (asF := fun ad => [.ref (ad 4), .ref (ad k0)]) [.ref (gx_ad x k0)] X (c1_endChain hk0 q2) rfl wm_RX1_81 rfl (X.kd gk_C4).1 ((X.kd gk_C4).2 _ _ _ _) rfl (by decide) (by decide) rfl (Nat.le_of_ble_eq_true rfl) hc dX1_endRule_2 ?_
  refine gr_aload_n X dX1_endRule_5 0 rfl rfl ?_
  refine gf1_1 X wf_RX1_15 dX1_endRule_6 ?_
  refine gr_iconst 0 X dX1_endRule_9 (by decide) ?_
  obtain ⟨h3, hf⟩ := gz_cke hf
  refine gr_iaload X gk_C6 (gz_inp h3) dX1_endRule_10 ?_
  obtain ⟨v4, ev4, hf⟩ := gz_lte hf
  refine gr_istore_n [(2, .int v4), (0, .ref (gx_ad x 4)), (1, .ref (gx_ad x k0))] X dX1_endRule_11 ev4 rfl (by decide) rfl ?_
  refine gr_aload_n X dX1_endRule_12 2 rfl rfl ?_
  refine gf7_8 X (gk_X7o hk0) wf_RX1_84 dX1_endRule_13 ?_
  refine gr_aload_n X dX1_endRule_16 1 rfl rfl ?_
  refine gf1_5 X wf_RX1_28 dX1_endRule_17 ?_
  obtain ⟨v5, ev5, hf⟩ := gz_lte hf
  refine gr_top ev5 ?_
  refine gr_dup2 X dX1_endRule_20 rfl rfl ?_
  obtain ⟨h6, hf⟩ := gz_cke hf
  refine gr_iaload X (gk_X78 hk0) (gz_inp h6) dX1_endRule_21 ?_
  refine gr_iload_n X dX1_endRule_22 0 rfl rfl ?_
  obtain ⟨v7, M8, q9, hf⟩ := gz_bd2e hf
  refine gr_callSI (asF := fun _ => [.int v4]) [.int v4] X (c1_firstOf q9) rfl wm_RX1_87 rfl (by decide) (by decide) rfl (Nat.le_of_ble_eq_true rfl) hc dX1_endRule_23 ?_
  refine gr_ior X dX1_endRule_26 ?_
  obtain ⟨h10, hf⟩ := gz_cke hf
  obtain ⟨M11, eM11, hf⟩ := gz_lte hf
  refine gr_iastore X (gk_X78 hk0) (gz_inp h10) eM11 dX1_endRule_27 ?_
  refine gr_aload_n X dX1_endRule_28 2 rfl rfl ?_
  refine gf7_5 X (gk_X7o hk0) wf_RX1_91 dX1_endRule_29 ?_
  refine gr_aload_n X dX1_endRule_32 1 rfl rfl ?_
  refine gf1_4 X wf_RX1_25 dX1_endRule_33 ?_
  refine gr_iload_n X dX1_endRule_36 0 rfl rfl ?_
  obtain ⟨v12, M13, q14, hf⟩ := gz_bd2e hf
  refine gr_callSI (asF := fun _ => [.int v4]) [.int v4] X (c1_lastOf q14) rfl wm_RX1_94 rfl (by decide) (by decide) rfl (Nat.le_of_ble_eq_true rfl) hc dX1_endRule_37 ?_
  obtain ⟨h15, hf⟩ := gz_cke hf
  obtain ⟨M16, eM16, hf⟩ := gz_lte hf
  refine gr_iastore X (gk_X75 hk0) (gz_inp h15) eM16 dX1_endRule_40 ?_
  refine gr_aload_n X dX1_endRule_41 2 rfl rfl ?_
  refine gf7_6 X (gk_X7o hk0) wf_RX1_97 dX1_endRule_42 ?_
  refine gr_aload_n X dX1_endRule_45 1 rfl rfl ?_
  refine gf1_4 X wf_RX1_25 dX1_endRule_46 ?_
  refine gr_iload_n X dX1_endRule_49 0 rfl rfl ?_
  obtain ⟨v17, M18, q19, hf⟩ := gz_bd2e hf
  refine gr_callSI (asF := fun _ => [.int v4]) [.int v4] X (c1_mayBeEmpty q19) rfl wm_RX1_101 rfl (by decide) (by decide) rfl (Nat.le_of_ble_eq_true rfl) hc dX1_endRule_50 ?_
  obtain ⟨h20, hf⟩ := gz_cke hf
  obtain ⟨M21, eM21, hf⟩ := gz_lte hf
  refine gr_zastore X (gk_X76 hk0) (gz_inp h20) eM21 dX1_endRule_53 ?_
  refine gr_aload_n X dX1_endRule_54 2 rfl rfl ?_
  refine gr_aload_n X dX1_endRule_55 1 rfl rfl ?_
  refine gf1_4 X wf_RX1_25 dX1_endRule_56 ?_
  refine gr_iconst 1 X dX1_endRule_59 (by decide) ?_
  refine gr_iadd X dX1_endRule_60 ?_
  obtain ⟨M22, eM22, hf⟩ := gz_lte hf
  refine gp7_0 X (gk_X7o hk0) wf_RX1_64 eM22 dX1_endRule_61 ?_
  exact gz_EVu hE hf dX1_endRule_64

def f1_closeBracket (M0 : gz_M) : Option (gz_M) := gz_ck (gz_inb (M0.1 4 2) 7) <| gz_lt (gz_w M0 4 3 (M0.1 6 (M0.1 4 2).toNatClampNeg)) fun M2 => if (M2.1 4 2) ≤ 0 then (some M2) else (gz_lt (gz_w M2 4 2 ((M2.1 4 2) - 1)) fun M4 => some M4)
set_option maxRecDepth 100000 in
theorem c1_closeBracket {pf : Nat → Bool} {l : Launch} {M0 M' : gz_M} (hf : f1_closeBracket M0 = some M') : gz_CV l gz_cfC yX1_closeBracket cX1_closeBracket 1 1 (fun ad => [.ref (ad 4)]) pf M0 M' := by
  refine gz_ofV (by decide +kernel) (fun _ => Nat.le_of_ble_eq_true rfl) (fun x X hc hE => ?_)
  show gz_At x 0 [(0, .ref (gx_ad x 4))] [] M0
  unfold f1_closeBracket at hf
  refine gr_aload_n X dX1_closeBracket_0 0 rfl rfl ?_
  refine gr_aload_n X dX1_closeBracket_1 0 rfl rfl ?_
  refine gf1_1 X wf_RX1_15 dX1_closeBracket_2 ?_
  refine gr_aload_n X dX1_closeBracket_5 0 rfl rfl ?_
  refine gf1_2 X wf_RX1_18 dX1_closeBracket_6 ?_
  obtain ⟨h1, hf⟩ := gz_cke hf
  refine gr_iaload X gk_C6 (gz_inp h1) dX1_closeBracket_9 ?_
  obtain ⟨M2, eM2, hf⟩ := gz_lte hf
  refine gp1_3 X wf_RX1_22 eM2 dX1_closeBracket_10 ?_
  refine gr_aload_n X dX1_closeBracket_13 0 rfl rfl ?_
  refine gf1_2 X wf_RX1_18 dX1_closeBracket_14 ?_
  refine gr_if_le 30 X dX1_closeBracket_17 (by decide) (fun h3 => ?_) (fun h3 => ?_)
  · rw [if_pos h3] at hf
    exact gz_EVu hE hf dX1_closeBracket_30
  · rw [if_neg h3] at hf
    refine gr_aload_n X dX1_closeBracket_20 0 rfl rfl ?_
    refine gr_dup X dX1_closeBracket_21 rfl ?_
    refine gf1_2 X wf_RX1_18 dX1_closeBracket_22 ?_
    refine gr_iconst 1 X dX1_closeBracket_25 (by decide) ?_
    refine gr_isub X dX1_closeBracket_26 ?_
    obtain ⟨M4, eM4, hf⟩ := gz_lte hf
    refine gp1_2 X wf_RX1_18 eM4 dX1_closeBracket_27 ?_
    exact gz_EVu hE hf dX1_closeBracket_30

def f1_openBracket (M0 : gz_M) : Option (gz_M) := if 6 ≤ (M0.1 4 2) then (some M0) else (gz_lt (gz_w M0 4 2 ((M0.1 4 2) + 1)) fun M2 => gz_ck (gz_inb (M2.1 4 2) 7) <| gz_lt (gz_w M2 5 (M2.1 4 2).toNatClampNeg (-1)) fun M4 => gz_ck (gz_inb (M4.1 4 2) 7) <| gz_lt (gz_w M4 6 (M4.1 4 2).toNatClampNeg (-1)) fun M6 => some M6)
set_option maxRecDepth 100000 in
theorem c1_openBracket {pf : Nat → Bool} {l : Launch} {M0 M' : gz_M} (hf : f1_openBracket M0 = some M') : gz_CV l gz_cfC yX1_openBracket cX1_openBracket 1 1 (fun ad => [.ref (ad 4)]) pf M0 M' := by
  refine gz_ofV (by decide +kernel) (fun _ => Nat.le_of_ble_eq_true rfl) (fun x X hc hE => ?_)
  show gz_At x 0 [(0, .ref (gx_ad x 4))] [] M0
  unfold f1_openBracket at hf
  refine gr_aload_n X dX1_openBracket_0 0 rfl rfl ?_
  refine gf1_2 X wf_RX1_18 dX1_openBracket_1 ?_
  refine gr_bipush 6 X dX1_openBracket_4 (by decide) ?_
  refine gr_icmp_ge 39 X dX1_openBracket_6 (by decide) (fun h1 => ?_) (fun h1 => ?_)
  · rw [if_pos h1] at hf
    exact gz_EVu hE hf dX1_openBracket_39
  · rw [if_neg h1] at hf
    refine gr_aload_n X dX1_openBracket_9 0 rfl rfl ?_
    refine gr_dup X dX1_openBracket_10 rfl ?_
    refine gf1_2 X wf_RX1_18 dX1_openBracket_11 ?_
    refine gr_iconst 1 X dX1_openBracket_14 (by decide) ?_
    refine gr_iadd X dX1_openBracket_15 ?_
    obtain ⟨M2, eM2, hf⟩ := gz_lte hf
    refine gp1_2 X wf_RX1_18 eM2 dX1_openBracket_16 ?_
    refine gr_aload_n X dX1_openBracket_19 0 rfl rfl ?_
    refine gf1_0 X wf_RX1_9 dX1_openBracket_20 ?_
    refine gr_aload_n X dX1_openBracket_23 0 rfl rfl ?_
    refine gf1_2 X wf_RX1_18 dX1_openBracket_24 ?_
    refine gr_iconst (-1) X dX1_openBracket_27 (by decide) ?_
    obtain ⟨h3, hf⟩ := gz_cke hf
    obtain ⟨M4, eM4, hf⟩ := gz_lte hf
    refine gr_iastore X gk_C5 (gz_inp h3) eM4 dX1_openBracket_28 ?_
    refine gr_aload_n X dX1_openBracket_29 0 rfl rfl ?_
    refine gf1_1 X wf_RX1_15 dX1_openBracket_30 ?_
    refine gr_aload_n X dX1_openBracket_33 0 rfl rfl ?_
    refine gf1_2 X wf_RX1_18 dX1_openBracket_34 ?_
    refine gr_iconst (-1) X dX1_openBracket_37 (by decide) ?_
    obtain ⟨h5, hf⟩ := gz_cke hf
    obtain ⟨M6, eM6, hf⟩ := gz_lte hf
    refine gr_iastore X gk_C6 (gz_inp h5) eM6 dX1_openBracket_38 ?_
    exact gz_EVu hE hf dX1_openBracket_39

def f1_takeAct (k0 : Nat) (a1 : Int32) (M0 : gz_M) : Option (gz_M) := if a1 = 60 then (gz_ck (gz_inb (M0.1 4 4) 8) <| gz_lt (gz_w M0 (k0 + 3) (M0.1 4 4).toNatClampNeg 1) fun M3 => some M3) else (if a1 = 62 then (gz_ck (gz_inb (M0.1 4 4) 8) <| gz_lt (gz_w M0 (k0 + 3) (M0.1 4 4).toNatClampNeg 2) fun M6 => some M6) else (if a1 = 61 then (gz_ck (gz_inb (M0.1 4 4) 8) <| gz_lt (gz_w M0 (k0 + 3) (M0.1 4 4).toNatClampNeg 3) fun M9 => some M9) else (if a1 = 58 then (some M0) else (gz_ck (gz_inb (M0.1 4 4) 8) <| gz_lt (gz_w M0 (k0 + 4) (M0.1 4 4).toNatClampNeg (a1 - 48)) fun M12 => some M12))))
set_option maxRecDepth 100000 in
theorem c1_takeAct {pf : Nat → Bool} {l : Launch} {M0 M' : gz_M} {k0 : Nat} {a1 : Int32} (hk0 : gz_IsX7 pf k0) (hf : f1_takeAct k0 a1 M0 = some M') : gz_CV l gz_cfC yX1_takeAct cX1_takeAct 3 1 (fun ad => [.ref (ad 4), .ref (ad k0), .int a1]) pf M0 M' := by
  refine gz_ofV (by decide +kernel) (fun _ => Nat.le_of_ble_eq_true rfl) (fun x X hc hE => ?_)
  show gz_At x 0 [(0, .ref (gx_ad x 4)), (1, .ref (gx_ad x k0)), (2, .int a1)] [] M0
  unfold f1_takeAct at hf
  refine gr_iload_n X dX1_takeAct_0 2 rfl rfl ?_
  refine gr_bipush 60 X dX1_takeAct_1 (by decide) ?_
  refine gr_icmp_ne 19 X dX1_takeAct_3 (by decide) (fun h1 => ?_) (fun h1 => ?_)
  · rw [if_pos h1] at hf
    refine gr_aload_n X dX1_takeAct_6 1 rfl rfl ?_
    refine gf7_3 X (gk_X7o hk0) wf_RX1_75 dX1_takeAct_7 ?_
    refine gr_aload_n X dX1_takeAct_10 0 rfl rfl ?_
    refine gf1_4 X wf_RX1_25 dX1_takeAct_11 ?_
    refine gr_iconst 1 X dX1_takeAct_14 (by decide) ?_
    obtain ⟨h2, hf⟩ := gz_cke hf
    obtain ⟨M3, eM3, hf⟩ := gz_lte hf
    refine gr_iastore X (gk_X73 hk0) (gz_inp h2) eM3 dX1_takeAct_15 ?_
    refine gr_goto 76 X dX1_takeAct_16 (by decide) ?_
    exact gz_EVu hE hf dX1_takeAct_76
  · rw [if_neg h1] at hf
    refine gr_iload_n X dX1_takeAct_19 2 rfl rfl ?_
    refine gr_bipush 62 X dX1_takeAct_20 (by decide) ?_
    refine gr_icmp_ne 38 X dX1_takeAct_22 (by decide) (fun h4 => ?_) (fun h4 => ?_)
    · rw [if_pos h4] at hf
      refine gr_aload_n X dX1_takeAct_25 1 rfl rfl ?_
      refine gf7_3 X (gk_X7o hk0) wf_RX1_75 dX1_takeAct_26 ?_
      refine gr_aload_n X dX1_takeAct_29 0 rfl rfl ?_
      refine gf1_4 X wf_RX1_25 dX1_takeAct_30 ?_
      refine gr_iconst 2 X dX1_takeAct_33 (by decide) ?_
      obtain ⟨h5, hf⟩ := gz_cke hf
      obtain ⟨M6, eM6, hf⟩ := gz_lte hf
      refine gr_iastore X (gk_X73 hk0) (gz_inp h5) eM6 dX1_takeAct_34 ?_
      refine gr_goto 76 X dX1_takeAct_35 (by decide) ?_
      exact gz_EVu hE hf dX1_takeAct_76
    · rw [if_neg h4] at hf
      refine gr_iload_n X dX1_takeAct_38 2 rfl rfl ?_
      refine gr_bipush 61 X dX1_takeAct_39 (by decide) ?_
      refine gr_icmp_ne 57 X dX1_takeAct_41 (by decide) (fun h7 => ?_) (fun h7 => ?_)
      · rw [if_pos h7] at hf
        refine gr_aload_n X dX1_takeAct_44 1 rfl rfl ?_
        refine gf7_3 X (gk_X7o hk0) wf_RX1_75 dX1_takeAct_45 ?_
        refine gr_aload_n X dX1_takeAct_48 0 rfl rfl ?_
        refine gf1_4 X wf_RX1_25 dX1_takeAct_49 ?_
        refine gr_iconst 3 X dX1_takeAct_52 (by decide) ?_
        obtain ⟨h8, hf⟩ := gz_cke hf
        obtain ⟨M9, eM9, hf⟩ := gz_lte hf
        refine gr_iastore X (gk_X73 hk0) (gz_inp h8) eM9 dX1_takeAct_53 ?_
        refine gr_goto 76 X dX1_takeAct_54 (by decide) ?_
        exact gz_EVu hE hf dX1_takeAct_76
      · rw [if_neg h7] at hf
        refine gr_iload_n X dX1_takeAct_57 2 rfl rfl ?_
        refine gr_bipush 58 X dX1_takeAct_58 (by decide) ?_
        refine gr_icmp_eq 76 X dX1_takeAct_60 (by decide) (fun h10 => ?_) (fun h10 => ?_)
        · rw [if_pos h10] at hf
          exact gz_EVu hE hf dX1_takeAct_76
        · rw [if_neg h10] at hf
          refine gr_aload_n X dX1_takeAct_63 1 rfl rfl ?_
          refine gf7_4 X (gk_X7o hk0) wf_RX1_78 dX1_takeAct_64 ?_
          refine gr_aload_n X dX1_takeAct_67 0 rfl rfl ?_
          refine gf1_4 X wf_RX1_25 dX1_takeAct_68 ?_
          refine gr_iload_n X dX1_takeAct_71 2 rfl rfl ?_
          refine gr_bipush 48 X dX1_takeAct_72 (by decide) ?_
          refine gr_isub X dX1_takeAct_74 ?_
          obtain ⟨h11, hf⟩ := gz_cke hf
          obtain ⟨M12, eM12, hf⟩ := gz_lte hf
          refine gr_iastore X (gk_X74 hk0) (gz_inp h11) eM12 dX1_takeAct_75 ?_
          exact gz_EVu hE hf dX1_takeAct_76

def f1_take (k0 : Nat) (a1 : Int32) (M0 : gz_M) : Option (gz_M) := if a1 = 40 then (gz_bd (f1_endPart k0 M0) fun M2 => gz_bd (f1_openBracket M2) fun M4 => some M4) else if a1 = 41 then (gz_bd (f1_endChain k0 M0) fun M7 => gz_bd (f1_closeBracket M7) fun M9 => some M9) else if a1 = 42 then (gz_bd2 (f1_lastOf (M0.1 4 3) M0) fun v12 M13 => gz_bd2 (f1_firstOf (M13.1 4 3) M13) fun v15 M16 => gz_bd (f1_link k0 v12 v15 M16) fun M18 => gz_lt (gz_w M18 4 3 ((M18.1 4 3) ||| 1048576)) fun M20 => some M20) else if a1 = 43 then (gz_bd2 (f1_lastOf (M0.1 4 3) M0) fun v22 M23 => gz_bd2 (f1_firstOf (M23.1 4 3) M23) fun v25 M26 => gz_bd (f1_link k0 v22 v25 M26) fun M28 => some M28) else if a1 = 63 then (gz_lt (gz_w M0 4 3 ((M0.1 4 3) ||| 1048576)) fun M31 => some M31) else if a1 = 124 then (gz_bd (f1_endChain k0 M0) fun M33 => some M33) else (gz_bd (f1_takeAct k0 a1 M0) fun M35 => some M35)
set_option maxRecDepth 100000 in
theorem c1_take {pf : Nat → Bool} {l : Launch} {M0 M' : gz_M} {k0 : Nat} {a1 : Int32} (hk0 : gz_IsX7 pf k0) (hf : f1_take k0 a1 M0 = some M') : gz_CV l gz_cfC yX1_take cX1_take 3 4 (fun ad => [.ref (ad 4), .ref (ad k0), .int a1]) pf M0 M' := by
  refine gz_ofV (by decide +kernel) (fun _ => Nat.le_of_ble_eq_true rfl) (fun x X hc hE => ?_)
  show gz_At x 0 [(0, .ref (gx_ad x 4)), (1, .ref (gx_ad x k0)), (2, .int a1)] [] M0
  unfold f1_take at hf
  refine gr_iload_n X dX1_take_0 2 rfl rfl ?_
  by_cases h1 : a1 = 40
  · rw [if_pos h1] at hf
    refine gr_lsIn 40 59 60 X dX1_take_1 h1 (by decide) (by decide) (by decide) ?_
    refine gr_aload_n X dX1_take_60 0 rfl rfl ?_
    refine gr_aload_n X dX1_take_61 1 rfl rfl ?_
    obtain ⟨M2, q3, hf⟩ := gz_bde hf
    refine gr_callV (asF := fun ad => [.ref (ad 4), .ref (ad k0)]) [.ref (gx_ad x k0)] X (c1_endPart hk0 q3) rfl wm_RX1_104 rfl (X.kd gk_C4).1 ((X.kd gk_C4).2 _ _ _ _) rfl (by decide) (by decide) rfl (Nat.le_of_ble_eq_true rfl) hc dX1_take_62 ?_
    refine gr_aload_n X dX1_take_65 0 rfl rfl ?_
    obtain ⟨M4, q5, hf⟩ := gz_bde hf
    refine gr_callV (asF := fun ad => [.ref (ad 4)]) [] X (c1_openBracket q5) rfl wm_RX1_107 rfl (X.kd gk_C4).1 ((X.kd gk_C4).2 _ _ _ _) rfl (by decide) (by decide) rfl (Nat.le_of_ble_eq_true rfl) hc dX1_take_66 ?_
    refine gr_goto 167 X dX1_take_69 (by decide) ?_
    exact gz_EVu hE hf dX1_take_167
  rw [if_neg h1] at hf
  by_cases h6 : a1 = 41
  · rw [if_pos h6] at hf
    refine gr_lsIn 41 71 72 X dX1_take_1 h6 (by decide) (by decide) (by decide) ?_
    refine gr_aload_n X dX1_take_72 0 rfl rfl ?_
    refine gr_aload_n X dX1_take_73 1 rfl rfl ?_
    obtain ⟨M7, q8, hf⟩ := gz_bde hf
    refine gr_callV (asF := fun ad => [.ref (ad 4), .ref (ad k0)]) [.ref (gx_ad x k0)] X (c1_endChain hk0 q8) rfl wm_RX1_81 rfl (X.kd gk_C4).1 ((X.kd gk_C4).2 _ _ _ _) rfl (by decide) (by decide) rfl (Nat.le_of_ble_eq_true rfl) hc dX1_take_74 ?_
    refine gr_aload_n X dX1_take_77 0 rfl rfl ?_
    obtain ⟨M9, q10, hf⟩ := gz_bde hf
    refine gr_callV (asF := fun ad => [.ref (ad 4)]) [] X (c1_closeBracket q10) rfl wm_RX1_110 rfl (X.kd gk_C4).1 ((X.kd gk_C4).2 _ _ _ _) rfl (by decide) (by decide) rfl (Nat.le_of_ble_eq_true rfl) hc dX1_take_78 ?_
    refine gr_goto 167 X dX1_take_81 (by decide) ?_
    exact gz_EVu hE hf dX1_take_167
  rw [if_neg h6] at hf
  by_cases h11 : a1 = 42
  · rw [if_pos h11] at hf
    refine gr_lsIn 42 91 92 X dX1_take_1 h11 (by decide) (by decide) (by decide) ?_
    refine gr_aload_n X dX1_take_92 0 rfl rfl ?_
    refine gr_aload_n X dX1_take_93 1 rfl rfl ?_
    refine gr_aload_n X dX1_take_94 0 rfl rfl ?_
    refine gf1_3 X wf_RX1_22 dX1_take_95 ?_
    obtain ⟨v12, M13, q14, hf⟩ := gz_bd2e hf
    refine gr_callSI (asF := fun _ => [.int (M0.1 4 3)]) [.int (M0.1 4 3)] X (c1_lastOf q14) rfl wm_RX1_94 rfl (by decide) (by decide) rfl (Nat.le_of_ble_eq_true rfl) hc dX1_take_98 ?_
    refine gr_aload_n X dX1_take_101 0 rfl rfl ?_
    refine gf1_3 X wf_RX1_22 dX1_take_102 ?_
    obtain ⟨v15, M16, q17, hf⟩ := gz_bd2e hf
    refine gr_callSI (asF := fun _ => [.int (M13.1 4 3)]) [.int (M13.1 4 3)] X (c1_firstOf q17) rfl wm_RX1_87 rfl (by decide) (by decide) rfl (Nat.le_of_ble_eq_true rfl) hc dX1_take_105 ?_
    obtain ⟨M18, q19, hf⟩ := gz_bde hf
    refine gr_callV (asF := fun ad => [.ref (ad 4), .ref (ad k0), .int v12, .int v15]) [.ref (gx_ad x k0), .int v12, .int v15] X (c1_link hk0 q19) rfl wm_RX1_113 rfl (X.kd gk_C4).1 ((X.kd gk_C4).2 _ _ _ _) rfl (by decide) (by decide) rfl (Nat.le_of_ble_eq_true rfl) hc dX1_take_108 ?_
    refine gr_aload_n X dX1_take_111 0 rfl rfl ?_
    refine gr_dup X dX1_take_112 rfl ?_
    refine gf1_3 X wf_RX1_22 dX1_take_113 ?_
    refine gr_ldc 1048576 X dX1_take_116 wk_RX1_117 ?_
    refine gr_ior X dX1_take_118 ?_
    obtain ⟨M20, eM20, hf⟩ := gz_lte hf
    refine gp1_3 X wf_RX1_22 eM20 dX1_take_119 ?_
    refine gr_goto 167 X dX1_take_122 (by decide) ?_
    exact gz_EVu hE hf dX1_take_167
  rw [if_neg h11] at hf
  by_cases h21 : a1 = 43
  · rw [if_pos h21] at hf
    refine gr_lsIn 43 124 125 X dX1_take_1 h21 (by decide) (by decide) (by decide) ?_
    refine gr_aload_n X dX1_take_125 0 rfl rfl ?_
    refine gr_aload_n X dX1_take_126 1 rfl rfl ?_
    refine gr_aload_n X dX1_take_127 0 rfl rfl ?_
    refine gf1_3 X wf_RX1_22 dX1_take_128 ?_
    obtain ⟨v22, M23, q24, hf⟩ := gz_bd2e hf
    refine gr_callSI (asF := fun _ => [.int (M0.1 4 3)]) [.int (M0.1 4 3)] X (c1_lastOf q24) rfl wm_RX1_94 rfl (by decide) (by decide) rfl (Nat.le_of_ble_eq_true rfl) hc dX1_take_131 ?_
    refine gr_aload_n X dX1_take_134 0 rfl rfl ?_
    refine gf1_3 X wf_RX1_22 dX1_take_135 ?_
    obtain ⟨v25, M26, q27, hf⟩ := gz_bd2e hf
    refine gr_callSI (asF := fun _ => [.int (M23.1 4 3)]) [.int (M23.1 4 3)] X (c1_firstOf q27) rfl wm_RX1_87 rfl (by decide) (by decide) rfl (Nat.le_of_ble_eq_true rfl) hc dX1_take_138 ?_
    obtain ⟨M28, q29, hf⟩ := gz_bde hf
    refine gr_callV (asF := fun ad => [.ref (ad 4), .ref (ad k0), .int v22, .int v25]) [.ref (gx_ad x k0), .int v22, .int v25] X (c1_link hk0 q29) rfl wm_RX1_113 rfl (X.kd gk_C4).1 ((X.kd gk_C4).2 _ _ _ _) rfl (by decide) (by decide) rfl (Nat.le_of_ble_eq_true rfl) hc dX1_take_141 ?_
    refine gr_goto 167 X dX1_take_144 (by decide) ?_
    exact gz_EVu hE hf dX1_take_167
  rw [if_neg h21] at hf
  by_cases h30 : a1 = 63
  · rw [if_pos h30] at hf
    refine gr_lsIn 63 146 147 X dX1_take_1 h30 (by decide) (by decide) (by decide) ?_
    refine gr_aload_n X dX1_take_147 0 rfl rfl ?_
    refine gr_dup X dX1_take_148 rfl ?_
    refine gf1_3 X wf_RX1_22 dX1_take_149 ?_
    refine gr_ldc 1048576 X dX1_take_152 wk_RX1_117 ?_
    refine gr_ior X dX1_take_154 ?_
    obtain ⟨M31, eM31, hf⟩ := gz_lte hf
    refine gp1_3 X wf_RX1_22 eM31 dX1_take_155 ?_
    refine gr_goto 167 X dX1_take_158 (by decide) ?_
    exact gz_EVu hE hf dX1_take_167
  rw [if_neg h30] at hf
  by_cases h32 : a1 = 124
  · rw [if_pos h32] at hf
    refine gr_lsIn 124 83 84 X dX1_take_1 h32 (by decide) (by decide) (by decide) ?_
    refine gr_aload_n X dX1_take_84 0 rfl rfl ?_
    refine gr_aload_n X dX1_take_85 1 rfl rfl ?_
    obtain ⟨M33, q34, hf⟩ := gz_bde hf
    refine gr_callV (asF := fun ad => [.ref (ad 4), .ref (ad k0)]) [.ref (gx_ad x k0)] X (c1_endChain hk0 q34) rfl wm_RX1_81 rfl (X.kd gk_C4).1 ((X.kd gk_C4).2 _ _ _ _) rfl (by decide) (by decide) rfl (Nat.le_of_ble_eq_true rfl) hc dX1_take_86 ?_
    refine gr_goto 167 X dX1_take_89 (by decide) ?_
    exact gz_EVu hE hf dX1_take_167
  rw [if_neg h32] at hf
  refine gr_lsOut 160 161 X dX1_take_1 (by decide) (by simp only [Op.lookupswitch.offset_cons, Op.lookupswitch.offset_nil]; rw [if_neg (gz_kne 40 h1 (by decide)), if_neg (gz_kne 41 h6 (by decide)), if_neg (gz_kne 42 h11 (by decide)), if_neg (gz_kne 43 h21 (by decide)), if_neg (gz_kne 63 h30 (by decide)), if_neg (gz_kne 124 h32 (by decide))]) (by decide) ?_
  refine gr_aload_n X dX1_take_161 0 rfl rfl ?_
  refine gr_aload_n X dX1_take_162 1 rfl rfl ?_
  refine gr_iload_n X dX1_take_163 2 rfl rfl ?_
  obtain ⟨M35, q36, hf⟩ := gz_bde hf
  refine gr_callV (asF := fun ad => [.ref (ad 4), .ref (ad k0), .int a1]) [.ref (gx_ad x k0), .int a1] X (c1_takeAct hk0 q36) rfl wm_RX1_118 rfl (X.kd gk_C4).1 ((X.kd gk_C4).2 _ _ _ _) rfl (by decide) (by decide) rfl (Nat.le_of_ble_eq_true rfl) hc dX1_take_164 ?_
  exact gz_EVu hE hf dX1_take_167

def f1_build_110 (k0 : Nat) (k1 : Nat) (M0 : gz_M) : Option (gz_M) := if (M0.1 k1 1) ≤ 0 then (some M0) else (gz_bd (f1_endRule k0 M0) fun M2 => some M2)
theorem b1_build_110 {x : gz_X} {pf : Nat → Bool} {l : Launch} {M' : gz_M} (X : gz_Ok x cX1_build RX1 6 5 gz_cfC pf l) (hc : gx_cells x ≤ (gx_R x).cells ∧ gx_slots x ≤ (gx_R x).slots) (hE : gz_EV x cX1_build M') {k0 : Nat} {k1 : Nat} (hk0 : gz_IsX7 pf k0) (hk1 : gz_IsX0 pf k1) : ∀ (M0 : gz_M), f1_build_110 k0 k1 M0 = some M' → gz_At x 110 [(0, .ref (gx_ad x 4)), (1, .ref (gx_ad x k0)), (2, .ref (gx_ad x k1))] [] M0 := by
  intro  M0  hf
  rw [f1_build_110] at hf
  refine gr_aload_n X dX1_build_110 2 rfl rfl ?_
  refine gf0_1 X (gk_X0o hk1) wf_RX1_36 dX1_build_111 ?_
  refine gr_if_le 122 X dX1_build_114 (by decide) (fun h1 => ?_) (fun h1 => ?_)
  · rw [if_pos h1] at hf
    exact gz_EVu hE hf dX1_build_122
  · rw [if_neg h1] at hf
    refine gr_aload_n X dX1_build_117 0 rfl rfl ?_
    refine gr_aload_n X dX1_build_118 1 rfl rfl ?_
    obtain ⟨M2, q3, hf⟩ := gz_bde hf
    refine gr_callV (asF := fun ad => [.ref (ad 4), .ref (ad k0)]) [.ref (gx_ad x k0)] X (c1_endRule hk0 q3) rfl wm_RX1_48 rfl (X.kd gk_C4).1 ((X.kd gk_C4).2 _ _ _ _) rfl (by decide) (by decide) rfl (Nat.le_of_ble_eq_true rfl) hc dX1_build_119 ?_
    exact gz_EVu hE hf dX1_build_122

def f1_build_91 (k0 : Nat) (k1 : Nat) (c9 : Int32 → Int32 → gz_M → Option (gz_M)) (x4 : Int32) (x5 : Int32) (M0 : gz_M) : Option (gz_M) := if x5 = 59 then (gz_lt (x4 + 1) fun v2 => c9 1 v2 M0) else (gz_lt (x4 + 1) fun v3 => c9 0 v3 M0)
theorem b1_build_91 {x : gz_X} {pf : Nat → Bool} {l : Launch} {M' : gz_M} (X : gz_Ok x cX1_build RX1 6 5 gz_cfC pf l) (hc : gx_cells x ≤ (gx_R x).cells ∧ gx_slots x ≤ (gx_R x).slots) (hE : gz_EV x cX1_build M') {k0 : Nat} {k1 : Nat} (hk0 : gz_IsX7 pf k0) (hk1 : gz_IsX0 pf k1) {c9 : Int32 → Int32 → gz_M → Option (gz_M)} (hc9 : ∀ (x3 : Int32) (x4 : Int32) (M0 : gz_M), c9 x3 x4 M0 = some M' → gz_At x 9 [(0, .ref (gx_ad x 4)), (1, .ref (gx_ad x k0)), (2, .ref (gx_ad x k1)), (3, .int x3), (4, .int x4)] [] M0) : ∀ (x4 : Int32) (x5 : Int32) (M0 : gz_M), f1_build_91 k0 k1 c9 x4 x5 M0 = some M' → gz_At x 91 [(0, .ref (gx_ad x 4)), (1, .ref (gx_ad x k0)), (2, .ref (gx_ad x k1)), (4, .int x4), (5, .int x5)] [] M0 := by
  intro x4 x5 M0  hf
  rw [f1_build_91] at hf
  refine gr_iload X dX1_build_91 4 rfl ?_
  refine gr_bipush 59 X dX1_build_93 (by decide) ?_
  refine gr_icmp_ne 102 X dX1_build_95 (by decide) (fun h1 => ?_) (fun h1 => ?_)
  · rw [if_pos h1] at hf
    refine gr_iconst 1 X dX1_build_98 (by decide) ?_
    refine gr_goto 103 X dX1_build_99 (by decide) ?_
    refine gr_istore_n [(3, .int 1), (0, .ref (gx_ad x 4)), (1, .ref (gx_ad x k0)), (2, .ref (gx_ad x k1)), (4, .int x4), (5, .int x5)] X dX1_build_103 rfl rfl (by decide) rfl ?_
    obtain ⟨v2, ev2, hf⟩ := gz_lte hf
    refine gr_iinc 1 [(4, .int v2), (3, .int 1), (0, .ref (gx_ad x 4)), (1, .ref (gx_ad x k0)), (2, .ref (gx_ad x k1)), (5, .int x5)] X dX1_build_104 4 rfl (by decide) ev2 (by decide) rfl ?_
    refine gr_goto 9 X dX1_build_107 (by decide) ?_
    refine gr_sub (lv' := [(0, .ref (gx_ad x 4)), (1, .ref (gx_ad x k0)), (2, .ref (gx_ad x k1)), (3, .int 1), (4, .int v2)]) [2, 3, 4, 1, 0] rfl ?_
    exact hc9 _ _ _ hf
  · rw [if_neg h1] at hf
    refine gr_iconst 0 X dX1_build_102 (by decide) ?_
    refine gr_istore_n [(3, .int 0), (0, .ref (gx_ad x 4)), (1, .ref (gx_ad x k0)), (2, .ref (gx_ad x k1)), (4, .int x4), (5, .int x5)] X dX1_build_103 rfl rfl (by decide) rfl ?_
    obtain ⟨v3, ev3, hf⟩ := gz_lte hf
    refine gr_iinc 1 [(4, .int v3), (3, .int 0), (0, .ref (gx_ad x 4)), (1, .ref (gx_ad x k0)), (2, .ref (gx_ad x k1)), (5, .int x5)] X dX1_build_104 4 rfl (by decide) ev3 (by decide) rfl ?_
    refine gr_goto 9 X dX1_build_107 (by decide) ?_
    refine gr_sub (lv' := [(0, .ref (gx_ad x 4)), (1, .ref (gx_ad x k0)), (2, .ref (gx_ad x k1)), (3, .int 0), (4, .int v3)]) [2, 3, 4, 1, 0] rfl ?_
    exact hc9 _ _ _ hf

def f1_build_9 (k0 : Nat) (k1 : Nat) : Nat → Int32 → Int32 → gz_M → Option (gz_M)
  | 0, _, _, _ => none
  | n + 1, x3, x4, M0 => if (M0.1 k1 1) ≤ x4 then (f1_build_110 k0 k1 M0) else (if 80 ≤ x4 then (f1_build_110 k0 k1 M0) else (gz_ck (gz_inb x4 80) <| gz_lt (M0.1 (k1 + 1) x4.toNatClampNeg) fun v4 => if x3 = 0 then (if v4 = 59 then (gz_bd (f1_endRule k0 M0) fun M7 => f1_build_91 k0 k1 (f1_build_9 k0 k1 n) x4 v4 M7) else (gz_bd2 (f3_isLetter v4 M0) fun v9 M10 => if v9 = 0 then (gz_bd (f1_take k0 v4 M10) fun M13 => f1_build_91 k0 k1 (f1_build_9 k0 k1 n) x4 v4 M13) else (gz_bd (f1_addLetter k0 v4 M10) fun M15 => f1_build_91 k0 k1 (f1_build_9 k0 k1 n) x4 v4 M15))) else (gz_bd (f1_beginRule k0 (v4 - 48) M0) fun M17 => f1_build_91 k0 k1 (f1_build_9 k0 k1 n) x4 v4 M17)))
theorem b1_build_9 {x : gz_X} {pf : Nat → Bool} {l : Launch} {M' : gz_M} (X : gz_Ok x cX1_build RX1 6 5 gz_cfC pf l) (hc : gx_cells x ≤ (gx_R x).cells ∧ gx_slots x ≤ (gx_R x).slots) (hE : gz_EV x cX1_build M') {k0 : Nat} {k1 : Nat} (hk0 : gz_IsX7 pf k0) (hk1 : gz_IsX0 pf k1) : ∀ (n : Nat) (x3 : Int32) (x4 : Int32) (M0 : gz_M), f1_build_9 k0 k1 n x3 x4 M0 = some M' → gz_At x 9 [(0, .ref (gx_ad x 4)), (1, .ref (gx_ad x k0)), (2, .ref (gx_ad x k1)), (3, .int x3), (4, .int x4)] [] M0 := by
  intro n
  induction n with
  | zero =>
    intro x3 x4 M0  hf
    rw [f1_build_9] at hf
    cases hf
  | succ n ih =>
    intro x3 x4 M0  hf
    rw [f1_build_9] at hf
    refine gr_iload X dX1_build_9 4 rfl ?_
    refine gr_aload_n X dX1_build_11 2 rfl rfl ?_
    refine gf0_1 X (gk_X0o hk1) wf_RX1_36 dX1_build_12 ?_
    refine gr_icmp_ge 110 X dX1_build_15 (by decide) (fun h1 => ?_) (fun h1 => ?_)
    · rw [if_pos h1] at hf
      refine gr_sub (lv' := [(0, .ref (gx_ad x 4)), (1, .ref (gx_ad x k0)), (2, .ref (gx_ad x k1))]) [0, 1, 2] rfl ?_
      exact b1_build_110 X hc hE hk0 hk1  _ hf
    · rw [if_neg h1] at hf
      refine gr_iload X dX1_build_18 4 rfl ?_
      refine gr_bipush 80 X dX1_build_20 (by decide) ?_
      refine gr_icmp_ge 110 X dX1_build_22 (by decide) (fun h2 => ?_) (fun h2 => ?_)
      · rw [if_pos h2] at hf
        refine gr_sub (lv' := [(0, .ref (gx_ad x 4)), (1, .ref (gx_ad x k0)), (2, .ref (gx_ad x k1))]) [0, 1, 2] rfl ?_
        exact b1_build_110 X hc hE hk0 hk1  _ hf
      · rw [if_neg h2] at hf
        refine gr_aload_n X dX1_build_25 2 rfl rfl ?_
        refine gf0_0 X (gk_X0o hk1) wf_RX1_41 dX1_build_26 ?_
        refine gr_iload X dX1_build_29 4 rfl ?_
        obtain ⟨h3, hf⟩ := gz_cke hf
        refine gr_iaload X (gk_X01 hk1) (gz_inp h3) dX1_build_31 ?_
        obtain ⟨v4, ev4, hf⟩ := gz_lte hf
        refine gr_istore [(5, .int v4), (0, .ref (gx_ad x 4)), (1, .ref (gx_ad x k0)), (2, .ref (gx_ad x k1)), (3, .int x3), (4, .int x4)] X dX1_build_32 ev4 (by decide) rfl ?_
        refine gr_iload_n X dX1_build_34 4 rfl rfl ?_
        refine gr_if_eq 51 X dX1_build_35 (by decide) (fun h5 => ?_) (fun h5 => ?_)
        · rw [if_pos h5] at hf
          refine gr_iload X dX1_build_51 0 rfl ?_
          refine gr_bipush 59 X dX1_build_53 (by decide) ?_
          refine gr_icmp_ne 66 X dX1_build_55 (by decide) (fun h6 => ?_) (fun h6 => ?_)
          · rw [if_pos h6] at hf
            refine gr_aload_n X dX1_build_58 1 rfl rfl ?_
            refine gr_aload_n X dX1_build_59 2 rfl rfl ?_
            obtain ⟨M7, q8, hf⟩ := gz_bde hf
            refine gr_callV (asF := fun ad => [.ref (ad 4), .ref (ad k0)]) [.ref (gx_ad x k0)] X (c1_endRule hk0 q8) rfl wm_RX1_48 rfl (X.kd gk_C4).1 ((X.kd gk_C4).2 _ _ _ _) rfl (by decide) (by decide) rfl (Nat.le_of_ble_eq_true rfl) hc dX1_build_60 ?_
            refine gr_goto 91 X dX1_build_63 (by decide) ?_
            refine gr_sub (lv' := [(0, .ref (gx_ad x 4)), (1, .ref (gx_ad x k0)), (2, .ref (gx_ad x k1)), (4, .int x4), (5, .int v4)]) [1, 2, 3, 5, 0] rfl ?_
            exact b1_build_91 X hc hE hk0 hk1 ih _ _ _ hf
          · rw [if_neg h6] at hf
            refine gr_iload X dX1_build_66 0 rfl ?_
            obtain ⟨v9, M10, q11, hf⟩ := gz_bd2e hf
            refine gr_callSI (asF := fun _ => [.int v4]) [.int v4] X (c3_isLetter q11) rfl wm_RX1_52 rfl (by decide) (by decide) rfl (Nat.le_of_ble_eq_true rfl) hc dX1_build_68 ?_
            refine gr_if_eq 84 X dX1_build_71 (by decide) (fun h12 => ?_) (fun h12 => ?_)
            · rw [if_pos h12] at hf
              refine gr_aload_n X dX1_build_84 1 rfl rfl ?_
              refine gr_aload_n X dX1_build_85 2 rfl rfl ?_
              refine gr_iload X dX1_build_86 0 rfl ?_
              obtain ⟨M13, q14, hf⟩ := gz_bde hf
              refine gr_callV (asF := fun ad => [.ref (ad 4), .ref (ad k0), .int v4]) [.ref (gx_ad x k0), .int v4] X (c1_take hk0 q14) rfl wm_RX1_61 rfl (X.kd gk_C4).1 ((X.kd gk_C4).2 _ _ _ _) rfl (by decide) (by decide) rfl (Nat.le_of_ble_eq_true rfl) hc dX1_build_88 ?_
              refine gr_sub (lv' := [(0, .ref (gx_ad x 4)), (1, .ref (gx_ad x k0)), (2, .ref (gx_ad x k1)), (4, .int x4), (5, .int v4)]) [1, 2, 3, 5, 0] rfl ?_
              exact b1_build_91 X hc hE hk0 hk1 ih _ _ _ hf
            · rw [if_neg h12] at hf
              refine gr_aload_n X dX1_build_74 1 rfl rfl ?_
              refine gr_aload_n X dX1_build_75 2 rfl rfl ?_
              refine gr_iload X dX1_build_76 0 rfl ?_
              obtain ⟨M15, q16, hf⟩ := gz_bde hf
              refine gr_callV (asF := fun ad => [.ref (ad 4), .ref (ad k0), .int v4]) [.ref (gx_ad x k0), .int v4] X (c1_addLetter hk0 q16) rfl wm_RX1_58 rfl (X.kd gk_C4).1 ((X.kd gk_C4).2 _ _ _ _) rfl (by decide) (by decide) rfl (Nat.le_of_ble_eq_true rfl) hc dX1_build_78 ?_
              refine gr_goto 91 X dX1_build_81 (by decide) ?_
              refine gr_sub (lv' := [(0, .ref (gx_ad x 4)), (1, .ref (gx_ad x k0)), (2, .ref (gx_ad x k1)), (4, .int x4), (5, .int v4)]) [1, 2, 3, 5, 0] rfl ?_
              exact b1_build_91 X hc hE hk0 hk1 ih _ _ _ hf
        · rw [if_neg h5] at hf
          refine gr_aload_n X dX1_build_38 1 rfl rfl ?_
          refine gr_aload_n X dX1_build_39 2 rfl rfl ?_
          refine gr_iload X dX1_build_40 0 rfl ?_
          refine gr_bipush 48 X dX1_build_42 (by decide) ?_
          refine gr_isub X dX1_build_44 ?_
          obtain ⟨M17, q18, hf⟩ := gz_bde hf
          refine gr_callV (asF := fun ad => [.ref (ad 4), .ref (ad k0), .int (v4 - 48)]) [.ref (gx_ad x k0), .int (v4 - 48)] X (c1_beginRule hk0 q18) rfl wm_RX1_44 rfl (X.kd gk_C4).1 ((X.kd gk_C4).2 _ _ _ _) rfl (by decide) (by decide) rfl (Nat.le_of_ble_eq_true rfl) hc dX1_build_45 ?_
          refine gr_goto 91 X dX1_build_48 (by decide) ?_
          refine gr_sub (lv' := [(0, .ref (gx_ad x 4)), (1, .ref (gx_ad x k0)), (2, .ref (gx_ad x k1)), (4, .int x4), (5, .int v4)]) [1, 2, 3, 5, 0] rfl ?_
          exact b1_build_91 X hc hE hk0 hk1 ih _ _ _ hf

def f1_build (k0 : Nat) (k1 : Nat) (M0 : gz_M) : Option (gz_M) := gz_bd (f7_clear k0 M0) fun M1 => f1_build_9 k0 k1 gz_FU 1 0 M1
set_option maxRecDepth 100000 in
theorem c1_build {pf : Nat → Bool} {l : Launch} {M0 M' : gz_M} {k0 : Nat} {k1 : Nat} (hk0 : gz_IsX7 pf k0) (hk1 : gz_IsX0 pf k1) (hf : f1_build k0 k1 M0 = some M') : gz_CV l gz_cfC yX1_build cX1_build 6 5 (fun ad => [.ref (ad 4), .ref (ad k0), .ref (ad k1)]) pf M0 M' := by
  refine gz_ofV (by decide +kernel) (fun _ => Nat.le_of_ble_eq_true rfl) (fun x X hc hE => ?_)
  show gz_At x 0 [(0, .ref (gx_ad x 4)), (1, .ref (gx_ad x k0)), (2, .ref (gx_ad x k1))] [] M0
  unfold f1_build at hf
  refine gr_aload_n X dX1_build_0 1 rfl rfl ?_
  obtain ⟨M1, q2, hf⟩ := gz_bde hf
  refine gr_callV (asF := fun ad => [.ref (ad k0)]) [] X (c7_clear hk0 q2) rfl wm_RX1_31 rfl (X.kd (gk_X7o hk0)).1 ((X.kd (gk_X7o hk0)).2 _ _ _ _) rfl (by decide) (by decide) rfl (Nat.le_of_ble_eq_true rfl) hc dX1_build_1 ?_
  refine gr_iconst 1 X dX1_build_4 (by decide) ?_
  refine gr_istore_n [(3, .int 1), (0, .ref (gx_ad x 4)), (1, .ref (gx_ad x k0)), (2, .ref (gx_ad x k1))] X dX1_build_5 rfl rfl (by decide) rfl ?_
  refine gr_iconst 0 X dX1_build_6 (by decide) ?_
  refine gr_istore [(4, .int 0), (3, .int 1), (0, .ref (gx_ad x 4)), (1, .ref (gx_ad x k0)), (2, .ref (gx_ad x k1))] X dX1_build_7 rfl (by decide) rfl ?_
  refine gr_sub (lv' := [(0, .ref (gx_ad x 4)), (1, .ref (gx_ad x k0)), (2, .ref (gx_ad x k1)), (3, .int 1), (4, .int 0)]) [2, 3, 4, 1, 0] rfl ?_
  exact b1_build_9 X hc hE hk0 hk1 _ _ _ _ hf

def f4_forget (M0 : gz_M) : Option (gz_M) := gz_lt (gz_w M0 131 2 0) fun M1 => some M1
set_option maxRecDepth 100000 in
theorem c4_forget {pf : Nat → Bool} {l : Launch} {M0 M' : gz_M} (hf : f4_forget M0 = some M') : gz_CV l gz_cfC yX4_forget cX4_forget 1 1 (fun ad => [.ref (ad 131)]) pf M0 M' := by
  refine gz_ofV (by decide +kernel) (fun _ => Nat.le_of_ble_eq_true rfl) (fun x X hc hE => ?_)
  show gz_At x 0 [(0, .ref (gx_ad x 131))] [] M0
  unfold f4_forget at hf
  refine gr_aload_n X dX4_forget_0 0 rfl rfl ?_
  refine gr_iconst 0 X dX4_forget_1 (by decide) ?_
  obtain ⟨M1, eM1, hf⟩ := gz_lte hf
  refine gp4_2 X wf_RX4_21 eM1 dX4_forget_2 ?_
  exact gz_EVu hE hf dX4_forget_5
end
