/-- a private method of a class that the tables say can be made, by its rows of tables_1 -/
def lw_okq (q : MethodName × Nat) : Prop := (q.1.cls ≠ "java/lang/invoke/MethodHandle" ∧ q.1.cls ≠ "java/lang/invoke/VarHandle") ∧ Cond.instantiable q.1.cls q.2 ∈ tables_1 ∧ Cond.privateMethod q.1 ∈ tables_1 ∧ Cond.instanceMethod q.1 ∈ tables_1
theorem lw_p0 : lw_okq (⟨"LongestTokens$Grammar", "dueBehind", "(II)I"⟩, 2) := ⟨⟨by decide +kernel, by decide +kernel⟩, List.mem_of_getElem? (i := 50) (by decide +kernel), List.mem_of_getElem? (i := 424) (by decide +kernel), List.mem_of_getElem? (i := 425) (by decide +kernel)⟩
theorem lw_p1 : lw_okq (⟨"LongestTokens$Grammar", "dueInPart", "(I)I"⟩, 2) := ⟨⟨by decide +kernel, by decide +kernel⟩, List.mem_of_getElem? (i := 50) (by decide +kernel), List.mem_of_getElem? (i := 431) (by decide +kernel), List.mem_of_getElem? (i := 432) (by decide +kernel)⟩
theorem lw_p2 : lw_okq (⟨"LongestTokens$Grammar", "dueBehindPart", "(I)I"⟩, 2) := ⟨⟨by decide +kernel, by decide +kernel⟩, List.mem_of_getElem? (i := 50) (by decide +kernel), List.mem_of_getElem? (i := 441) (by decide +kernel), List.mem_of_getElem? (i := 442) (by decide +kernel)⟩
theorem lw_p3 : lw_okq (⟨"LongestTokens$Grammar", "dueInNextRule", "()I"⟩, 2) := ⟨⟨by decide +kernel, by decide +kernel⟩, List.mem_of_getElem? (i := 50) (by decide +kernel), List.mem_of_getElem? (i := 445) (by decide +kernel), List.mem_of_getElem? (i := 446) (by decide +kernel)⟩
theorem lw_p4 : lw_okq (⟨"LongestTokens$History", "slotAt", "(I)LLongestTokens$Book;"⟩, 3) := ⟨⟨by decide +kernel, by decide +kernel⟩, List.mem_of_getElem? (i := 327) (by decide +kernel), List.mem_of_getElem? (i := 460) (by decide +kernel), List.mem_of_getElem? (i := 461) (by decide +kernel)⟩
theorem lw_p5 : lw_okq (⟨"LongestTokens", "refresh", "()V"⟩, 16) := ⟨⟨by decide +kernel, by decide +kernel⟩, List.mem_of_getElem? (i := 23) (by decide +kernel), List.mem_of_getElem? (i := 484) (by decide +kernel), List.mem_of_getElem? (i := 485) (by decide +kernel)⟩
theorem lw_p6 : lw_okq (⟨"LongestTokens$Builder", "beginRule", "(LLongestTokens$Rules;I)V"⟩, 6) := ⟨⟨by decide +kernel, by decide +kernel⟩, List.mem_of_getElem? (i := 63) (by decide +kernel), List.mem_of_getElem? (i := 499) (by decide +kernel), List.mem_of_getElem? (i := 500) (by decide +kernel)⟩
theorem lw_p7 : lw_okq (⟨"LongestTokens$Builder", "endRule", "(LLongestTokens$Rules;)V"⟩, 6) := ⟨⟨by decide +kernel, by decide +kernel⟩, List.mem_of_getElem? (i := 63) (by decide +kernel), List.mem_of_getElem? (i := 506) (by decide +kernel), List.mem_of_getElem? (i := 507) (by decide +kernel)⟩
theorem lw_p8 : lw_okq (⟨"LongestTokens$Builder", "endChain", "(LLongestTokens$Rules;)V"⟩, 6) := ⟨⟨by decide +kernel, by decide +kernel⟩, List.mem_of_getElem? (i := 63) (by decide +kernel), List.mem_of_getElem? (i := 510) (by decide +kernel), List.mem_of_getElem? (i := 511) (by decide +kernel)⟩
theorem lw_p9 : lw_okq (⟨"LongestTokens$Builder", "endPart", "(LLongestTokens$Rules;)V"⟩, 6) := ⟨⟨by decide +kernel, by decide +kernel⟩, List.mem_of_getElem? (i := 63) (by decide +kernel), List.mem_of_getElem? (i := 514) (by decide +kernel), List.mem_of_getElem? (i := 515) (by decide +kernel)⟩
theorem lw_p10 : lw_okq (⟨"LongestTokens$Builder", "link", "(LLongestTokens$Rules;II)V"⟩, 6) := ⟨⟨by decide +kernel, by decide +kernel⟩, List.mem_of_getElem? (i := 63) (by decide +kernel), List.mem_of_getElem? (i := 524) (by decide +kernel), List.mem_of_getElem? (i := 525) (by decide +kernel)⟩
theorem lw_p11 : lw_okq (⟨"LongestTokens$Builder", "addLetter", "(LLongestTokens$Rules;I)V"⟩, 6) := ⟨⟨by decide +kernel, by decide +kernel⟩, List.mem_of_getElem? (i := 63) (by decide +kernel), List.mem_of_getElem? (i := 533) (by decide +kernel), List.mem_of_getElem? (i := 534) (by decide +kernel)⟩
theorem lw_p12 : lw_okq (⟨"LongestTokens$Builder", "take", "(LLongestTokens$Rules;I)V"⟩, 6) := ⟨⟨by decide +kernel, by decide +kernel⟩, List.mem_of_getElem? (i := 63) (by decide +kernel), List.mem_of_getElem? (i := 537) (by decide +kernel), List.mem_of_getElem? (i := 538) (by decide +kernel)⟩
theorem lw_p13 : lw_okq (⟨"LongestTokens$Builder", "openBracket", "()V"⟩, 6) := ⟨⟨by decide +kernel, by decide +kernel⟩, List.mem_of_getElem? (i := 63) (by decide +kernel), List.mem_of_getElem? (i := 541) (by decide +kernel), List.mem_of_getElem? (i := 542) (by decide +kernel)⟩
theorem lw_p14 : lw_okq (⟨"LongestTokens$Builder", "closeBracket", "()V"⟩, 6) := ⟨⟨by decide +kernel, by decide +kernel⟩, List.mem_of_getElem? (i := 63) (by decide +kernel), List.mem_of_getElem? (i := 545) (by decide +kernel), List.mem_of_getElem? (i := 546) (by decide +kernel)⟩
theorem lw_p15 : lw_okq (⟨"LongestTokens$Builder", "takeAct", "(LLongestTokens$Rules;I)V"⟩, 6) := ⟨⟨by decide +kernel, by decide +kernel⟩, List.mem_of_getElem? (i := 63) (by decide +kernel), List.mem_of_getElem? (i := 549) (by decide +kernel), List.mem_of_getElem? (i := 550) (by decide +kernel)⟩
def lw_privs_1 : List (MethodName × Nat) := [(⟨"LongestTokens$Grammar", "dueBehind", "(II)I"⟩, 2), (⟨"LongestTokens$Grammar", "dueInPart", "(I)I"⟩, 2), (⟨"LongestTokens$Grammar", "dueBehindPart", "(I)I"⟩, 2), (⟨"LongestTokens$Grammar", "dueInNextRule", "()I"⟩, 2), (⟨"LongestTokens$History", "slotAt", "(I)LLongestTokens$Book;"⟩, 3), (⟨"LongestTokens", "refresh", "()V"⟩, 16), (⟨"LongestTokens$Builder", "beginRule", "(LLongestTokens$Rules;I)V"⟩, 6), (⟨"LongestTokens$Builder", "endRule", "(LLongestTokens$Rules;)V"⟩, 6), (⟨"LongestTokens$Builder", "endChain", "(LLongestTokens$Rules;)V"⟩, 6), (⟨"LongestTokens$Builder", "endPart", "(LLongestTokens$Rules;)V"⟩, 6), (⟨"LongestTokens$Builder", "link", "(LLongestTokens$Rules;II)V"⟩, 6), (⟨"LongestTokens$Builder", "addLetter", "(LLongestTokens$Rules;I)V"⟩, 6), (⟨"LongestTokens$Builder", "take", "(LLongestTokens$Rules;I)V"⟩, 6), (⟨"LongestTokens$Builder", "openBracket", "()V"⟩, 6), (⟨"LongestTokens$Builder", "closeBracket", "()V"⟩, 6), (⟨"LongestTokens$Builder", "takeAct", "(LLongestTokens$Rules;I)V"⟩, 6)]
theorem lw_r1 : ∀ q ∈ lw_privs_1, lw_okq q := List.forall_mem_cons.mpr ⟨lw_p0, List.forall_mem_cons.mpr ⟨lw_p1, List.forall_mem_cons.mpr ⟨lw_p2, List.forall_mem_cons.mpr ⟨lw_p3, List.forall_mem_cons.mpr ⟨lw_p4, List.forall_mem_cons.mpr ⟨lw_p5, List.forall_mem_cons.mpr ⟨lw_p6, List.forall_mem_cons.mpr ⟨lw_p7, List.forall_mem_cons.mpr ⟨lw_p8, List.forall_mem_cons.mpr ⟨lw_p9, List.forall_mem_cons.mpr ⟨lw_p10, List.forall_mem_cons.mpr ⟨lw_p11, List.forall_mem_cons.mpr ⟨lw_p12, List.forall_mem_cons.mpr ⟨lw_p13, List.forall_mem_cons.mpr ⟨lw_p14, List.forall_mem_cons.mpr ⟨lw_p15, fun _ h => absurd h List.not_mem_nil⟩⟩⟩⟩⟩⟩⟩⟩⟩⟩⟩⟩⟩⟩⟩⟩
theorem lw_p16 : lw_okq (⟨"LongestTokens", "recut", "()V"⟩, 16) := ⟨⟨by decide +kernel, by decide +kernel⟩, List.mem_of_getElem? (i := 23) (by decide +kernel), List.mem_of_getElem? (i := 553) (by decide +kernel), List.mem_of_getElem? (i := 554) (by decide +kernel)⟩
theorem lw_p17 : lw_okq (⟨"LongestTokens$Cutting", "doAct", "(LLongestTokens$Rules;I)V"⟩, 16) := ⟨⟨by decide +kernel, by decide +kernel⟩, List.mem_of_getElem? (i := 187) (by decide +kernel), List.mem_of_getElem? (i := 586) (by decide +kernel), List.mem_of_getElem? (i := 587) (by decide +kernel)⟩
theorem lw_p18 : lw_okq (⟨"LongestTokens", "tell", "(J)V"⟩, 16) := ⟨⟨by decide +kernel, by decide +kernel⟩, List.mem_of_getElem? (i := 23) (by decide +kernel), List.mem_of_getElem? (i := 630) (by decide +kernel), List.mem_of_getElem? (i := 631) (by decide +kernel)⟩
theorem lw_p19 : lw_okq (⟨"LongestTokens$Pairs", "clear", "()V"⟩, 5) := ⟨⟨by decide +kernel, by decide +kernel⟩, List.mem_of_getElem? (i := 262) (by decide +kernel), List.mem_of_getElem? (i := 687) (by decide +kernel), List.mem_of_getElem? (i := 688) (by decide +kernel)⟩
theorem lw_p20 : lw_okq (⟨"LongestTokens$Pairs", "readOn", "(LLongestTokens$Rules;LLongestTokens$Line;III)V"⟩, 5) := ⟨⟨by decide +kernel, by decide +kernel⟩, List.mem_of_getElem? (i := 262) (by decide +kernel), List.mem_of_getElem? (i := 692) (by decide +kernel), List.mem_of_getElem? (i := 693) (by decide +kernel)⟩
theorem lw_p21 : lw_okq (⟨"LongestTokens$Pairs", "indexOf", "(II)I"⟩, 5) := ⟨⟨by decide +kernel, by decide +kernel⟩, List.mem_of_getElem? (i := 262) (by decide +kernel), List.mem_of_getElem? (i := 703) (by decide +kernel), List.mem_of_getElem? (i := 704) (by decide +kernel)⟩
theorem lw_p22 : lw_okq (⟨"LongestTokens$Pairs", "comeTo", "(II)V"⟩, 5) := ⟨⟨by decide +kernel, by decide +kernel⟩, List.mem_of_getElem? (i := 262) (by decide +kernel), List.mem_of_getElem? (i := 707) (by decide +kernel), List.mem_of_getElem? (i := 708) (by decide +kernel)⟩
theorem lw_p23 : lw_okq (⟨"LongestTokens", "isStretch", "(II)Z"⟩, 16) := ⟨⟨by decide +kernel, by decide +kernel⟩, List.mem_of_getElem? (i := 23) (by decide +kernel), List.mem_of_getElem? (i := 741) (by decide +kernel), List.mem_of_getElem? (i := 742) (by decide +kernel)⟩
theorem lw_p24 : lw_okq (⟨"LongestTokens$Search", "spread", "(LLongestTokens$Rules;III)V"⟩, 4) := ⟨⟨by decide +kernel, by decide +kernel⟩, List.mem_of_getElem? (i := 287) (by decide +kernel), List.mem_of_getElem? (i := 789) (by decide +kernel), List.mem_of_getElem? (i := 790) (by decide +kernel)⟩
theorem lw_p25 : lw_okq (⟨"LongestTokens", "tellRowTo", "(I)I"⟩, 16) := ⟨⟨by decide +kernel, by decide +kernel⟩, List.mem_of_getElem? (i := 23) (by decide +kernel), List.mem_of_getElem? (i := 800) (by decide +kernel), List.mem_of_getElem? (i := 801) (by decide +kernel)⟩
theorem lw_p26 : lw_okq (⟨"LongestTokens$Splits", "addRow", "(II)V"⟩, 3) := ⟨⟨by decide +kernel, by decide +kernel⟩, List.mem_of_getElem? (i := 309) (by decide +kernel), List.mem_of_getElem? (i := 832) (by decide +kernel), List.mem_of_getElem? (i := 833) (by decide +kernel)⟩
theorem lw_p27 : lw_okq (⟨"LongestTokens", "change", "(III)I"⟩, 16) := ⟨⟨by decide +kernel, by decide +kernel⟩, List.mem_of_getElem? (i := 23) (by decide +kernel), List.mem_of_getElem? (i := 866) (by decide +kernel), List.mem_of_getElem? (i := 867) (by decide +kernel)⟩
theorem lw_p28 : lw_okq (⟨"LongestTokens$Line", "remove", "(I)V"⟩, 2) := ⟨⟨by decide +kernel, by decide +kernel⟩, List.mem_of_getElem? (i := 94) (by decide +kernel), List.mem_of_getElem? (i := 885) (by decide +kernel), List.mem_of_getElem? (i := 886) (by decide +kernel)⟩
theorem lw_p29 : lw_okq (⟨"LongestTokens", "tellChange", "(II)V"⟩, 16) := ⟨⟨by decide +kernel, by decide +kernel⟩, List.mem_of_getElem? (i := 23) (by decide +kernel), List.mem_of_getElem? (i := 889) (by decide +kernel), List.mem_of_getElem? (i := 890) (by decide +kernel)⟩
theorem lw_p30 : lw_okq (⟨"LongestTokens", "changeByText", "()I"⟩, 16) := ⟨⟨by decide +kernel, by decide +kernel⟩, List.mem_of_getElem? (i := 23) (by decide +kernel), List.mem_of_getElem? (i := 929) (by decide +kernel), List.mem_of_getElem? (i := 930) (by decide +kernel)⟩
theorem lw_p31 : lw_okq (⟨"java/lang/Throwable", "fillInStackTrace", "(I)Ljava/lang/Throwable;"⟩, 6) := ⟨⟨by decide +kernel, by decide +kernel⟩, List.mem_of_getElem? (i := 1023) (by decide +kernel), List.mem_of_getElem? (i := 1021) (by decide +kernel), List.mem_of_getElem? (i := 1022) (by decide +kernel)⟩
def lw_privs_2 : List (MethodName × Nat) := [(⟨"LongestTokens", "recut", "()V"⟩, 16), (⟨"LongestTokens$Cutting", "doAct", "(LLongestTokens$Rules;I)V"⟩, 16), (⟨"LongestTokens", "tell", "(J)V"⟩, 16), (⟨"LongestTokens$Pairs", "clear", "()V"⟩, 5), (⟨"LongestTokens$Pairs", "readOn", "(LLongestTokens$Rules;LLongestTokens$Line;III)V"⟩, 5), (⟨"LongestTokens$Pairs", "indexOf", "(II)I"⟩, 5), (⟨"LongestTokens$Pairs", "comeTo", "(II)V"⟩, 5), (⟨"LongestTokens", "isStretch", "(II)Z"⟩, 16), (⟨"LongestTokens$Search", "spread", "(LLongestTokens$Rules;III)V"⟩, 4), (⟨"LongestTokens", "tellRowTo", "(I)I"⟩, 16), (⟨"LongestTokens$Splits", "addRow", "(II)V"⟩, 3), (⟨"LongestTokens", "change", "(III)I"⟩, 16), (⟨"LongestTokens$Line", "remove", "(I)V"⟩, 2), (⟨"LongestTokens", "tellChange", "(II)V"⟩, 16), (⟨"LongestTokens", "changeByText", "()I"⟩, 16), (⟨"java/lang/Throwable", "fillInStackTrace", "(I)Ljava/lang/Throwable;"⟩, 6)]
theorem lw_r2 : ∀ q ∈ lw_privs_2, lw_okq q := List.forall_mem_cons.mpr ⟨lw_p16, List.forall_mem_cons.mpr ⟨lw_p17, List.forall_mem_cons.mpr ⟨lw_p18, List.forall_mem_cons.mpr ⟨lw_p19, List.forall_mem_cons.mpr ⟨lw_p20, List.forall_mem_cons.mpr ⟨lw_p21, List.forall_mem_cons.mpr ⟨lw_p22, List.forall_mem_cons.mpr ⟨lw_p23, List.forall_mem_cons.mpr ⟨lw_p24, List.forall_mem_cons.mpr ⟨lw_p25, List.forall_mem_cons.mpr ⟨lw_p26, List.forall_mem_cons.mpr ⟨lw_p27, List.forall_mem_cons.mpr ⟨lw_p28, List.forall_mem_cons.mpr ⟨lw_p29, List.forall_mem_cons.mpr ⟨lw_p30, List.forall_mem_cons.mpr ⟨lw_p31, fun _ h => absurd h List.not_mem_nil⟩⟩⟩⟩⟩⟩⟩⟩⟩⟩⟩⟩⟩⟩⟩⟩
theorem lw_p32 : lw_okq (⟨"LongestTokensModel", "layRules", "([I)V"⟩, 55) := ⟨⟨by decide +kernel, by decide +kernel⟩, List.mem_of_getElem? (i := 1071) (by decide +kernel), List.mem_of_getElem? (i := 1078) (by decide +kernel), List.mem_of_getElem? (i := 1079) (by decide +kernel)⟩
theorem lw_p33 : lw_okq (⟨"LongestTokensModel", "readRules", "()Z"⟩, 55) := ⟨⟨by decide +kernel, by decide +kernel⟩, List.mem_of_getElem? (i := 1071) (by decide +kernel), List.mem_of_getElem? (i := 1082) (by decide +kernel), List.mem_of_getElem? (i := 1083) (by decide +kernel)⟩
theorem lw_p34 : lw_okq (⟨"LongestTokensModel", "fine", "()Z"⟩, 55) := ⟨⟨by decide +kernel, by decide +kernel⟩, List.mem_of_getElem? (i := 1071) (by decide +kernel), List.mem_of_getElem? (i := 1086) (by decide +kernel), List.mem_of_getElem? (i := 1087) (by decide +kernel)⟩
theorem lw_p35 : lw_okq (⟨"LongestTokensModel", "readRule", "(I)V"⟩, 55) := ⟨⟨by decide +kernel, by decide +kernel⟩, List.mem_of_getElem? (i := 1071) (by decide +kernel), List.mem_of_getElem? (i := 1090) (by decide +kernel), List.mem_of_getElem? (i := 1091) (by decide +kernel)⟩
theorem lw_p36 : lw_okq (⟨"LongestTokensModel", "oneOf", "(CI)I"⟩, 55) := ⟨⟨by decide +kernel, by decide +kernel⟩, List.mem_of_getElem? (i := 1071) (by decide +kernel), List.mem_of_getElem? (i := 1094) (by decide +kernel), List.mem_of_getElem? (i := 1095) (by decide +kernel)⟩
theorem lw_p37 : lw_okq (⟨"LongestTokensModel", "here", "()I"⟩, 55) := ⟨⟨by decide +kernel, by decide +kernel⟩, List.mem_of_getElem? (i := 1071) (by decide +kernel), List.mem_of_getElem? (i := 1098) (by decide +kernel), List.mem_of_getElem? (i := 1099) (by decide +kernel)⟩
theorem lw_p38 : lw_okq (⟨"LongestTokensModel", "fault", "(I)V"⟩, 55) := ⟨⟨by decide +kernel, by decide +kernel⟩, List.mem_of_getElem? (i := 1071) (by decide +kernel), List.mem_of_getElem? (i := 1105) (by decide +kernel), List.mem_of_getElem? (i := 1106) (by decide +kernel)⟩
theorem lw_p39 : lw_okq (⟨"LongestTokensModel", "need", "(C)V"⟩, 55) := ⟨⟨by decide +kernel, by decide +kernel⟩, List.mem_of_getElem? (i := 1071) (by decide +kernel), List.mem_of_getElem? (i := 1109) (by decide +kernel), List.mem_of_getElem? (i := 1110) (by decide +kernel)⟩
theorem lw_p40 : lw_okq (⟨"LongestTokensModel", "passes", "(C)Z"⟩, 55) := ⟨⟨by decide +kernel, by decide +kernel⟩, List.mem_of_getElem? (i := 1071) (by decide +kernel), List.mem_of_getElem? (i := 1113) (by decide +kernel), List.mem_of_getElem? (i := 1114) (by decide +kernel)⟩
theorem lw_p41 : lw_okq (⟨"LongestTokensModel", "readWay", "(I)V"⟩, 55) := ⟨⟨by decide +kernel, by decide +kernel⟩, List.mem_of_getElem? (i := 1071) (by decide +kernel), List.mem_of_getElem? (i := 1117) (by decide +kernel), List.mem_of_getElem? (i := 1118) (by decide +kernel)⟩
theorem lw_p42 : lw_okq (⟨"LongestTokensModel", "readChain", "(I)V"⟩, 55) := ⟨⟨by decide +kernel, by decide +kernel⟩, List.mem_of_getElem? (i := 1071) (by decide +kernel), List.mem_of_getElem? (i := 1121) (by decide +kernel), List.mem_of_getElem? (i := 1122) (by decide +kernel)⟩
theorem lw_p43 : lw_okq (⟨"LongestTokensModel", "readPart", "(I)V"⟩, 55) := ⟨⟨by decide +kernel, by decide +kernel⟩, List.mem_of_getElem? (i := 1071) (by decide +kernel), List.mem_of_getElem? (i := 1125) (by decide +kernel), List.mem_of_getElem? (i := 1126) (by decide +kernel)⟩
theorem lw_p44 : lw_okq (⟨"LongestTokensModel", "readLetter", "(I)V"⟩, 55) := ⟨⟨by decide +kernel, by decide +kernel⟩, List.mem_of_getElem? (i := 1071) (by decide +kernel), List.mem_of_getElem? (i := 1129) (by decide +kernel), List.mem_of_getElem? (i := 1130) (by decide +kernel)⟩
theorem lw_p45 : lw_okq (⟨"LongestTokensModel", "follow", "(III)V"⟩, 55) := ⟨⟨by decide +kernel, by decide +kernel⟩, List.mem_of_getElem? (i := 1071) (by decide +kernel), List.mem_of_getElem? (i := 1133) (by decide +kernel), List.mem_of_getElem? (i := 1134) (by decide +kernel)⟩
theorem lw_p46 : lw_okq (⟨"LongestTokensModel", "isPart", "()Z"⟩, 55) := ⟨⟨by decide +kernel, by decide +kernel⟩, List.mem_of_getElem? (i := 1071) (by decide +kernel), List.mem_of_getElem? (i := 1137) (by decide +kernel), List.mem_of_getElem? (i := 1138) (by decide +kernel)⟩
theorem lw_p47 : lw_okq (⟨"LongestTokensModel", "wasRight", "()Z"⟩, 55) := ⟨⟨by decide +kernel, by decide +kernel⟩, List.mem_of_getElem? (i := 1071) (by decide +kernel), List.mem_of_getElem? (i := 1141) (by decide +kernel), List.mem_of_getElem? (i := 1142) (by decide +kernel)⟩
def lw_privs_3 : List (MethodName × Nat) := [(⟨"LongestTokensModel", "layRules", "([I)V"⟩, 55), (⟨"LongestTokensModel", "readRules", "()Z"⟩, 55), (⟨"LongestTokensModel", "fine", "()Z"⟩, 55), (⟨"LongestTokensModel", "readRule", "(I)V"⟩, 55), (⟨"LongestTokensModel", "oneOf", "(CI)I"⟩, 55), (⟨"LongestTokensModel", "here", "()I"⟩, 55), (⟨"LongestTokensModel", "fault", "(I)V"⟩, 55), (⟨"LongestTokensModel", "need", "(C)V"⟩, 55), (⟨"LongestTokensModel", "passes", "(C)Z"⟩, 55), (⟨"LongestTokensModel", "readWay", "(I)V"⟩, 55), (⟨"LongestTokensModel", "readChain", "(I)V"⟩, 55), (⟨"LongestTokensModel", "readPart", "(I)V"⟩, 55), (⟨"LongestTokensModel", "readLetter", "(I)V"⟩, 55), (⟨"LongestTokensModel", "follow", "(III)V"⟩, 55), (⟨"LongestTokensModel", "isPart", "()Z"⟩, 55), (⟨"LongestTokensModel", "wasRight", "()Z"⟩, 55)]
theorem lw_r3 : ∀ q ∈ lw_privs_3, lw_okq q := List.forall_mem_cons.mpr ⟨lw_p32, List.forall_mem_cons.mpr ⟨lw_p33, List.forall_mem_cons.mpr ⟨lw_p34, List.forall_mem_cons.mpr ⟨lw_p35, List.forall_mem_cons.mpr ⟨lw_p36, List.forall_mem_cons.mpr ⟨lw_p37, List.forall_mem_cons.mpr ⟨lw_p38, List.forall_mem_cons.mpr ⟨lw_p39, List.forall_mem_cons.mpr ⟨lw_p40, List.forall_mem_cons.mpr ⟨lw_p41, List.forall_mem_cons.mpr ⟨lw_p42, List.forall_mem_cons.mpr ⟨lw_p43, List.forall_mem_cons.mpr ⟨lw_p44, List.forall_mem_cons.mpr ⟨lw_p45, List.forall_mem_cons.mpr ⟨lw_p46, List.forall_mem_cons.mpr ⟨lw_p47, fun _ h => absurd h List.not_mem_nil⟩⟩⟩⟩⟩⟩⟩⟩⟩⟩⟩⟩⟩⟩⟩⟩
theorem lw_p48 : lw_okq (⟨"LongestTokensModel", "begin", "()V"⟩, 55) := ⟨⟨by decide +kernel, by decide +kernel⟩, List.mem_of_getElem? (i := 1071) (by decide +kernel), List.mem_of_getElem? (i := 1324) (by decide +kernel), List.mem_of_getElem? (i := 1325) (by decide +kernel)⟩
theorem lw_p49 : lw_okq (⟨"LongestTokensModel", "crowded", "()I"⟩, 55) := ⟨⟨by decide +kernel, by decide +kernel⟩, List.mem_of_getElem? (i := 1071) (by decide +kernel), List.mem_of_getElem? (i := 1328) (by decide +kernel), List.mem_of_getElem? (i := 1329) (by decide +kernel)⟩
theorem lw_p50 : lw_okq (⟨"LongestTokensModel", "change", "()V"⟩, 55) := ⟨⟨by decide +kernel, by decide +kernel⟩, List.mem_of_getElem? (i := 1071) (by decide +kernel), List.mem_of_getElem? (i := 1332) (by decide +kernel), List.mem_of_getElem? (i := 1333) (by decide +kernel)⟩
theorem lw_p51 : lw_okq (⟨"LongestTokensModel", "note", "()V"⟩, 55) := ⟨⟨by decide +kernel, by decide +kernel⟩, List.mem_of_getElem? (i := 1071) (by decide +kernel), List.mem_of_getElem? (i := 1336) (by decide +kernel), List.mem_of_getElem? (i := 1337) (by decide +kernel)⟩
theorem lw_p52 : lw_okq (⟨"LongestTokensModel", "setLine", "(I)V"⟩, 55) := ⟨⟨by decide +kernel, by decide +kernel⟩, List.mem_of_getElem? (i := 1071) (by decide +kernel), List.mem_of_getElem? (i := 1344) (by decide +kernel), List.mem_of_getElem? (i := 1345) (by decide +kernel)⟩
theorem lw_p53 : lw_okq (⟨"LongestTokensModel", "lost", "()I"⟩, 55) := ⟨⟨by decide +kernel, by decide +kernel⟩, List.mem_of_getElem? (i := 1071) (by decide +kernel), List.mem_of_getElem? (i := 1352) (by decide +kernel), List.mem_of_getElem? (i := 1353) (by decide +kernel)⟩
theorem lw_p54 : lw_okq (⟨"LongestTokensModel", "cutAll", "(Z)V"⟩, 55) := ⟨⟨by decide +kernel, by decide +kernel⟩, List.mem_of_getElem? (i := 1071) (by decide +kernel), List.mem_of_getElem? (i := 1368) (by decide +kernel), List.mem_of_getElem? (i := 1369) (by decide +kernel)⟩
theorem lw_p55 : lw_okq (⟨"LongestTokensModel", "atFirst", "()V"⟩, 55) := ⟨⟨by decide +kernel, by decide +kernel⟩, List.mem_of_getElem? (i := 1071) (by decide +kernel), List.mem_of_getElem? (i := 1372) (by decide +kernel), List.mem_of_getElem? (i := 1373) (by decide +kernel)⟩
theorem lw_p56 : lw_okq (⟨"LongestTokensModel", "forget", "()V"⟩, 55) := ⟨⟨by decide +kernel, by decide +kernel⟩, List.mem_of_getElem? (i := 1071) (by decide +kernel), List.mem_of_getElem? (i := 1376) (by decide +kernel), List.mem_of_getElem? (i := 1377) (by decide +kernel)⟩
theorem lw_p57 : lw_okq (⟨"LongestTokensModel", "cutOne", "(Z)V"⟩, 55) := ⟨⟨by decide +kernel, by decide +kernel⟩, List.mem_of_getElem? (i := 1071) (by decide +kernel), List.mem_of_getElem? (i := 1380) (by decide +kernel), List.mem_of_getElem? (i := 1381) (by decide +kernel)⟩
theorem lw_p58 : lw_okq (⟨"LongestTokensModel", "step", "(IIZI)I"⟩, 55) := ⟨⟨by decide +kernel, by decide +kernel⟩, List.mem_of_getElem? (i := 1071) (by decide +kernel), List.mem_of_getElem? (i := 1384) (by decide +kernel), List.mem_of_getElem? (i := 1385) (by decide +kernel)⟩
theorem lw_p59 : lw_okq (⟨"LongestTokensModel", "winner", "(II)I"⟩, 55) := ⟨⟨by decide +kernel, by decide +kernel⟩, List.mem_of_getElem? (i := 1071) (by decide +kernel), List.mem_of_getElem? (i := 1391) (by decide +kernel), List.mem_of_getElem? (i := 1392) (by decide +kernel)⟩
theorem lw_p60 : lw_okq (⟨"LongestTokensModel", "doAct", "(I)V"⟩, 55) := ⟨⟨by decide +kernel, by decide +kernel⟩, List.mem_of_getElem? (i := 1071) (by decide +kernel), List.mem_of_getElem? (i := 1395) (by decide +kernel), List.mem_of_getElem? (i := 1396) (by decide +kernel)⟩
theorem lw_p61 : lw_okq (⟨"LongestTokensModel", "of", "(II)I"⟩, 55) := ⟨⟨by decide +kernel, by decide +kernel⟩, List.mem_of_getElem? (i := 1071) (by decide +kernel), List.mem_of_getElem? (i := 1400) (by decide +kernel), List.mem_of_getElem? (i := 1401) (by decide +kernel)⟩
theorem lw_p62 : lw_okq (⟨"LongestTokensModel", "tell", "(J)V"⟩, 55) := ⟨⟨by decide +kernel, by decide +kernel⟩, List.mem_of_getElem? (i := 1071) (by decide +kernel), List.mem_of_getElem? (i := 1404) (by decide +kernel), List.mem_of_getElem? (i := 1405) (by decide +kernel)⟩
theorem lw_p63 : lw_okq (⟨"LongestTokensModel", "stuckMany", "()I"⟩, 55) := ⟨⟨by decide +kernel, by decide +kernel⟩, List.mem_of_getElem? (i := 1071) (by decide +kernel), List.mem_of_getElem? (i := 1424) (by decide +kernel), List.mem_of_getElem? (i := 1425) (by decide +kernel)⟩
def lw_privs_4 : List (MethodName × Nat) := [(⟨"LongestTokensModel", "begin", "()V"⟩, 55), (⟨"LongestTokensModel", "crowded", "()I"⟩, 55), (⟨"LongestTokensModel", "change", "()V"⟩, 55), (⟨"LongestTokensModel", "note", "()V"⟩, 55), (⟨"LongestTokensModel", "setLine", "(I)V"⟩, 55), (⟨"LongestTokensModel", "lost", "()I"⟩, 55), (⟨"LongestTokensModel", "cutAll", "(Z)V"⟩, 55), (⟨"LongestTokensModel", "atFirst", "()V"⟩, 55), (⟨"LongestTokensModel", "forget", "()V"⟩, 55), (⟨"LongestTokensModel", "cutOne", "(Z)V"⟩, 55), (⟨"LongestTokensModel", "step", "(IIZI)I"⟩, 55), (⟨"LongestTokensModel", "winner", "(II)I"⟩, 55), (⟨"LongestTokensModel", "doAct", "(I)V"⟩, 55), (⟨"LongestTokensModel", "of", "(II)I"⟩, 55), (⟨"LongestTokensModel", "tell", "(J)V"⟩, 55), (⟨"LongestTokensModel", "stuckMany", "()I"⟩, 55)]
theorem lw_r4 : ∀ q ∈ lw_privs_4, lw_okq q := List.forall_mem_cons.mpr ⟨lw_p48, List.forall_mem_cons.mpr ⟨lw_p49, List.forall_mem_cons.mpr ⟨lw_p50, List.forall_mem_cons.mpr ⟨lw_p51, List.forall_mem_cons.mpr ⟨lw_p52, List.forall_mem_cons.mpr ⟨lw_p53, List.forall_mem_cons.mpr ⟨lw_p54, List.forall_mem_cons.mpr ⟨lw_p55, List.forall_mem_cons.mpr ⟨lw_p56, List.forall_mem_cons.mpr ⟨lw_p57, List.forall_mem_cons.mpr ⟨lw_p58, List.forall_mem_cons.mpr ⟨lw_p59, List.forall_mem_cons.mpr ⟨lw_p60, List.forall_mem_cons.mpr ⟨lw_p61, List.forall_mem_cons.mpr ⟨lw_p62, List.forall_mem_cons.mpr ⟨lw_p63, fun _ h => absurd h List.not_mem_nil⟩⟩⟩⟩⟩⟩⟩⟩⟩⟩⟩⟩⟩⟩⟩⟩
theorem lw_p64 : lw_okq (⟨"LongestTokensModel", "layOld", "()V"⟩, 55) := ⟨⟨by decide +kernel, by decide +kernel⟩, List.mem_of_getElem? (i := 1071) (by decide +kernel), List.mem_of_getElem? (i := 1436) (by decide +kernel), List.mem_of_getElem? (i := 1437) (by decide +kernel)⟩
theorem lw_p65 : lw_okq (⟨"LongestTokensModel", "readWithMemory", "()I"⟩, 55) := ⟨⟨by decide +kernel, by decide +kernel⟩, List.mem_of_getElem? (i := 1071) (by decide +kernel), List.mem_of_getElem? (i := 1456) (by decide +kernel), List.mem_of_getElem? (i := 1457) (by decide +kernel)⟩
theorem lw_p66 : lw_okq (⟨"LongestTokensModel", "isStretch", "(II)Z"⟩, 55) := ⟨⟨by decide +kernel, by decide +kernel⟩, List.mem_of_getElem? (i := 1071) (by decide +kernel), List.mem_of_getElem? (i := 1472) (by decide +kernel), List.mem_of_getElem? (i := 1473) (by decide +kernel)⟩
theorem lw_p67 : lw_okq (⟨"LongestTokensModel", "doesMatch", "(III)Z"⟩, 55) := ⟨⟨by decide +kernel, by decide +kernel⟩, List.mem_of_getElem? (i := 1071) (by decide +kernel), List.mem_of_getElem? (i := 1476) (by decide +kernel), List.mem_of_getElem? (i := 1477) (by decide +kernel)⟩
theorem lw_p68 : lw_okq (⟨"LongestTokensModel", "standingBehind", "(III)I"⟩, 55) := ⟨⟨by decide +kernel, by decide +kernel⟩, List.mem_of_getElem? (i := 1071) (by decide +kernel), List.mem_of_getElem? (i := 1480) (by decide +kernel), List.mem_of_getElem? (i := 1481) (by decide +kernel)⟩
theorem lw_p69 : lw_okq (⟨"LongestTokensModel", "layFound", "(I)V"⟩, 55) := ⟨⟨by decide +kernel, by decide +kernel⟩, List.mem_of_getElem? (i := 1071) (by decide +kernel), List.mem_of_getElem? (i := 1493) (by decide +kernel), List.mem_of_getElem? (i := 1494) (by decide +kernel)⟩
theorem lw_p70 : lw_okq (⟨"LongestTokensModel", "find", "(III)V"⟩, 55) := ⟨⟨by decide +kernel, by decide +kernel⟩, List.mem_of_getElem? (i := 1071) (by decide +kernel), List.mem_of_getElem? (i := 1497) (by decide +kernel), List.mem_of_getElem? (i := 1498) (by decide +kernel)⟩
theorem lw_p71 : lw_okq (⟨"LongestTokensModel", "isRule", "(I)Z"⟩, 55) := ⟨⟨by decide +kernel, by decide +kernel⟩, List.mem_of_getElem? (i := 1071) (by decide +kernel), List.mem_of_getElem? (i := 1505) (by decide +kernel), List.mem_of_getElem? (i := 1506) (by decide +kernel)⟩
theorem lw_p72 : lw_okq (⟨"LongestTokensModel", "tellRow", "(I)I"⟩, 55) := ⟨⟨by decide +kernel, by decide +kernel⟩, List.mem_of_getElem? (i := 1071) (by decide +kernel), List.mem_of_getElem? (i := 1509) (by decide +kernel), List.mem_of_getElem? (i := 1510) (by decide +kernel)⟩
theorem lw_p73 : lw_okq (⟨"LongestTokensModel", "changed", "(III)I"⟩, 55) := ⟨⟨by decide +kernel, by decide +kernel⟩, List.mem_of_getElem? (i := 1071) (by decide +kernel), List.mem_of_getElem? (i := 1542) (by decide +kernel), List.mem_of_getElem? (i := 1543) (by decide +kernel)⟩
theorem lw_p74 : lw_okq (⟨"LongestTokensModel", "refuses", "(III)I"⟩, 55) := ⟨⟨by decide +kernel, by decide +kernel⟩, List.mem_of_getElem? (i := 1071) (by decide +kernel), List.mem_of_getElem? (i := 1546) (by decide +kernel), List.mem_of_getElem? (i := 1547) (by decide +kernel)⟩
theorem lw_p75 : lw_okq (⟨"LongestTokensModel", "refusesBecome", "(II)I"⟩, 55) := ⟨⟨by decide +kernel, by decide +kernel⟩, List.mem_of_getElem? (i := 1071) (by decide +kernel), List.mem_of_getElem? (i := 1550) (by decide +kernel), List.mem_of_getElem? (i := 1551) (by decide +kernel)⟩
theorem lw_p76 : lw_okq (⟨"LongestTokensModel", "refusesCome", "(II)I"⟩, 55) := ⟨⟨by decide +kernel, by decide +kernel⟩, List.mem_of_getElem? (i := 1071) (by decide +kernel), List.mem_of_getElem? (i := 1554) (by decide +kernel), List.mem_of_getElem? (i := 1555) (by decide +kernel)⟩
theorem lw_p77 : lw_okq (⟨"LongestTokensModel", "doChange", "(III)V"⟩, 55) := ⟨⟨by decide +kernel, by decide +kernel⟩, List.mem_of_getElem? (i := 1071) (by decide +kernel), List.mem_of_getElem? (i := 1558) (by decide +kernel), List.mem_of_getElem? (i := 1559) (by decide +kernel)⟩
theorem lw_p78 : lw_okq (⟨"LongestTokensModel", "oldAt", "(I)I"⟩, 55) := ⟨⟨by decide +kernel, by decide +kernel⟩, List.mem_of_getElem? (i := 1071) (by decide +kernel), List.mem_of_getElem? (i := 1562) (by decide +kernel), List.mem_of_getElem? (i := 1563) (by decide +kernel)⟩
theorem lw_p79 : lw_okq (⟨"LongestTokensModel", "readAct", "(I)V"⟩, 55) := ⟨⟨by decide +kernel, by decide +kernel⟩, List.mem_of_getElem? (i := 1071) (by decide +kernel), List.mem_of_getElem? (i := 1582) (by decide +kernel), List.mem_of_getElem? (i := 1583) (by decide +kernel)⟩
def lw_privs_5 : List (MethodName × Nat) := [(⟨"LongestTokensModel", "layOld", "()V"⟩, 55), (⟨"LongestTokensModel", "readWithMemory", "()I"⟩, 55), (⟨"LongestTokensModel", "isStretch", "(II)Z"⟩, 55), (⟨"LongestTokensModel", "doesMatch", "(III)Z"⟩, 55), (⟨"LongestTokensModel", "standingBehind", "(III)I"⟩, 55), (⟨"LongestTokensModel", "layFound", "(I)V"⟩, 55), (⟨"LongestTokensModel", "find", "(III)V"⟩, 55), (⟨"LongestTokensModel", "isRule", "(I)Z"⟩, 55), (⟨"LongestTokensModel", "tellRow", "(I)I"⟩, 55), (⟨"LongestTokensModel", "changed", "(III)I"⟩, 55), (⟨"LongestTokensModel", "refuses", "(III)I"⟩, 55), (⟨"LongestTokensModel", "refusesBecome", "(II)I"⟩, 55), (⟨"LongestTokensModel", "refusesCome", "(II)I"⟩, 55), (⟨"LongestTokensModel", "doChange", "(III)V"⟩, 55), (⟨"LongestTokensModel", "oldAt", "(I)I"⟩, 55), (⟨"LongestTokensModel", "readAct", "(I)V"⟩, 55)]
theorem lw_r5 : ∀ q ∈ lw_privs_5, lw_okq q := List.forall_mem_cons.mpr ⟨lw_p64, List.forall_mem_cons.mpr ⟨lw_p65, List.forall_mem_cons.mpr ⟨lw_p66, List.forall_mem_cons.mpr ⟨lw_p67, List.forall_mem_cons.mpr ⟨lw_p68, List.forall_mem_cons.mpr ⟨lw_p69, List.forall_mem_cons.mpr ⟨lw_p70, List.forall_mem_cons.mpr ⟨lw_p71, List.forall_mem_cons.mpr ⟨lw_p72, List.forall_mem_cons.mpr ⟨lw_p73, List.forall_mem_cons.mpr ⟨lw_p74, List.forall_mem_cons.mpr ⟨lw_p75, List.forall_mem_cons.mpr ⟨lw_p76, List.forall_mem_cons.mpr ⟨lw_p77, List.forall_mem_cons.mpr ⟨lw_p78, List.forall_mem_cons.mpr ⟨lw_p79, fun _ h => absurd h List.not_mem_nil⟩⟩⟩⟩⟩⟩⟩⟩⟩⟩⟩⟩⟩⟩⟩⟩
theorem lw_p80 : lw_okq (⟨"LongestTokensModel", "twoDigits", "()I"⟩, 55) := ⟨⟨by decide +kernel, by decide +kernel⟩, List.mem_of_getElem? (i := 1071) (by decide +kernel), List.mem_of_getElem? (i := 1586) (by decide +kernel), List.mem_of_getElem? (i := 1587) (by decide +kernel)⟩
theorem lw_p81 : lw_okq (⟨"LongestTokensModel", "draw", "(I)I"⟩, 55) := ⟨⟨by decide +kernel, by decide +kernel⟩, List.mem_of_getElem? (i := 1071) (by decide +kernel), List.mem_of_getElem? (i := 1598) (by decide +kernel), List.mem_of_getElem? (i := 1599) (by decide +kernel)⟩
theorem lw_p82 : lw_okq (⟨"LongestTokensModel", "allLetters", "()I"⟩, 55) := ⟨⟨by decide +kernel, by decide +kernel⟩, List.mem_of_getElem? (i := 1071) (by decide +kernel), List.mem_of_getElem? (i := 1615) (by decide +kernel), List.mem_of_getElem? (i := 1616) (by decide +kernel)⟩
theorem lw_p83 : lw_okq (⟨"LongestTokensModel", "ruledModes", "()I"⟩, 55) := ⟨⟨by decide +kernel, by decide +kernel⟩, List.mem_of_getElem? (i := 1071) (by decide +kernel), List.mem_of_getElem? (i := 1619) (by decide +kernel), List.mem_of_getElem? (i := 1620) (by decide +kernel)⟩
def lw_privs_6 : List (MethodName × Nat) := [(⟨"LongestTokensModel", "twoDigits", "()I"⟩, 55), (⟨"LongestTokensModel", "draw", "(I)I"⟩, 55), (⟨"LongestTokensModel", "allLetters", "()I"⟩, 55), (⟨"LongestTokensModel", "ruledModes", "()I"⟩, 55)]
theorem lw_r6 : ∀ q ∈ lw_privs_6, lw_okq q := List.forall_mem_cons.mpr ⟨lw_p80, List.forall_mem_cons.mpr ⟨lw_p81, List.forall_mem_cons.mpr ⟨lw_p82, List.forall_mem_cons.mpr ⟨lw_p83, fun _ h => absurd h List.not_mem_nil⟩⟩⟩⟩
def lw_privs : List (MethodName × Nat) := lw_privs_1 ++ (lw_privs_2 ++ (lw_privs_3 ++ (lw_privs_4 ++ (lw_privs_5 ++ (lw_privs_6)))))
def lw_tbl : List Cond := k2_sels lw_privs ++ tables_1
theorem lw_privs_ok : ∀ q ∈ lw_privs, lw_okq q := by
  show ∀ q ∈ lw_privs_1 ++ (lw_privs_2 ++ (lw_privs_3 ++ (lw_privs_4 ++ (lw_privs_5 ++ (lw_privs_6))))), lw_okq q
  exact List.forall_mem_append.mpr ⟨lw_r1, List.forall_mem_append.mpr ⟨lw_r2, List.forall_mem_append.mpr ⟨lw_r3, List.forall_mem_append.mpr ⟨lw_r4, List.forall_mem_append.mpr ⟨lw_r5, lw_r6⟩⟩⟩⟩⟩
def RX0 : String := "LongestTokens$Book"
def TX0 : u_T := fun k => match k with
  | 0 => ("LongestTokens$Book", "text", "[I", true)
  | 1 => ("LongestTokens$Book", "textLength", "I", false)
  | _ => ("LongestTokens$Book", "line", "LLongestTokens$Line;", true)
def tyX0 : Nat → FieldType := fun k => match k with
  | 0 => .array .int
  | 1 => .int
  | _ => .object "LongestTokens$Line"
abbrev wsX00 : List Cond := u_ws RX0 TX0 3
theorem nmX0 : ∀ a, a < 3 → ∀ b, b < 3 → a ≠ b → (TX0 a).2.1 ≠ (TX0 b).2.1 := by decide +kernel
theorem tyX0_ok : ∀ k, k < 3 → parseFieldDescriptor (TX0 k).2.2.1 = some (tyX0 k) := by decide +kernel
abbrev cX0_init : ByteArray := prog_2_method_1_code
def yX0_init : MethodName := ⟨RX0, "<init>", "()V"⟩
abbrev cX0_copy : ByteArray := prog_2_method_2_code
def yX0_copy : MethodName := ⟨RX0, "copy", "(LLongestTokens$Book;)V"⟩
abbrev cX0_takeRules : ByteArray := prog_2_method_3_code
def yX0_takeRules : MethodName := ⟨RX0, "takeRules", "(LLongestTokens$Text;)V"⟩
def RX1 : String := "LongestTokens$Builder"
def TX1 : u_T := fun k => match k with
  | 0 => ("LongestTokens$Builder", "chains", "[I", true)
  | 1 => ("LongestTokens$Builder", "wholes", "[I", true)
  | 2 => ("LongestTokens$Builder", "open", "I", false)
  | 3 => ("LongestTokens$Builder", "part", "I", false)
  | 4 => ("LongestTokens$Builder", "rule", "I", false)
  | _ => ("LongestTokens$Builder", "mode", "I", false)
def tyX1 : Nat → FieldType := fun k => match k with
  | 0 => .array .int
  | 1 => .array .int
  | 2 => .int
  | 3 => .int
  | 4 => .int
  | _ => .int
abbrev wsX10 : List Cond := u_ws RX1 TX1 6
theorem nmX1 : ∀ a, a < 6 → ∀ b, b < 6 → a ≠ b → (TX1 a).2.1 ≠ (TX1 b).2.1 := by decide +kernel
theorem tyX1_ok : ∀ k, k < 6 → parseFieldDescriptor (TX1 k).2.2.1 = some (tyX1 k) := by decide +kernel
abbrev cX1_init : ByteArray := prog_3_method_1_code
def yX1_init : MethodName := ⟨RX1, "<init>", "()V"⟩
abbrev cX1_build : ByteArray := prog_3_method_2_code
def yX1_build : MethodName := ⟨RX1, "build", "(LLongestTokens$Rules;LLongestTokens$Book;)V"⟩
abbrev cX1_beginRule : ByteArray := prog_3_method_3_code
def yX1_beginRule : MethodName := ⟨RX1, "beginRule", "(LLongestTokens$Rules;I)V"⟩
abbrev cX1_endRule : ByteArray := prog_3_method_4_code
def yX1_endRule : MethodName := ⟨RX1, "endRule", "(LLongestTokens$Rules;)V"⟩
abbrev cX1_take : ByteArray := prog_3_method_5_code
def yX1_take : MethodName := ⟨RX1, "take", "(LLongestTokens$Rules;I)V"⟩
abbrev cX1_takeAct : ByteArray := prog_3_method_6_code
def yX1_takeAct : MethodName := ⟨RX1, "takeAct", "(LLongestTokens$Rules;I)V"⟩
abbrev cX1_addLetter : ByteArray := prog_3_method_7_code
def yX1_addLetter : MethodName := ⟨RX1, "addLetter", "(LLongestTokens$Rules;I)V"⟩
abbrev cX1_openBracket : ByteArray := prog_3_method_8_code
def yX1_openBracket : MethodName := ⟨RX1, "openBracket", "()V"⟩
abbrev cX1_closeBracket : ByteArray := prog_3_method_9_code
def yX1_closeBracket : MethodName := ⟨RX1, "closeBracket", "()V"⟩
abbrev cX1_endChain : ByteArray := prog_3_method_10_code
def yX1_endChain : MethodName := ⟨RX1, "endChain", "(LLongestTokens$Rules;)V"⟩
abbrev cX1_endPart : ByteArray := prog_3_method_11_code
def yX1_endPart : MethodName := ⟨RX1, "endPart", "(LLongestTokens$Rules;)V"⟩
abbrev cX1_link : ByteArray := prog_3_method_12_code
def yX1_link : MethodName := ⟨RX1, "link", "(LLongestTokens$Rules;II)V"⟩
abbrev cX1_firstOf : ByteArray := prog_3_method_13_code
def yX1_firstOf : MethodName := ⟨RX1, "firstOf", "(I)I"⟩
abbrev cX1_lastOf : ByteArray := prog_3_method_14_code
def yX1_lastOf : MethodName := ⟨RX1, "lastOf", "(I)I"⟩
abbrev cX1_mayBeEmpty : ByteArray := prog_3_method_15_code
def yX1_mayBeEmpty : MethodName := ⟨RX1, "mayBeEmpty", "(I)Z"⟩
def RX2 : String := "LongestTokens$Cutting"
def TX2 : u_T := fun k => match k with
  | 0 => ("LongestTokens$Cutting", "size", "I", false)
  | 1 => ("LongestTokens$Cutting", "most", "I", false)
  | 2 => ("LongestTokens$Cutting", "rule", "[I", true)
  | 3 => ("LongestTokens$Cutting", "first", "[I", true)
  | 4 => ("LongestTokens$Cutting", "behind", "[I", true)
  | 5 => ("LongestTokens$Cutting", "readTo", "[I", true)
  | 6 => ("LongestTokens$Cutting", "dead", "[I", true)
  | 7 => ("LongestTokens$Cutting", "mode", "[I", true)
  | 8 => ("LongestTokens$Cutting", "depth", "[I", true)
  | 9 => ("LongestTokens$Cutting", "pile", "[I", true)
  | 10 => ("LongestTokens$Cutting", "depthNow", "I", false)
  | 11 => ("LongestTokens$Cutting", "pileNow", "I", false)
  | 12 => ("LongestTokens$Cutting", "foundRule", "I", false)
  | 13 => ("LongestTokens$Cutting", "foundBehind", "I", false)
  | 14 => ("LongestTokens$Cutting", "foundReadTo", "I", false)
  | _ => ("LongestTokens$Cutting", "foundDead", "I", false)
def tyX2 : Nat → FieldType := fun k => match k with
  | 0 => .int
  | 1 => .int
  | 2 => .array .int
  | 3 => .array .int
  | 4 => .array .int
  | 5 => .array .int
  | 6 => .array .int
  | 7 => .array .int
  | 8 => .array .int
  | 9 => .array .int
  | 10 => .int
  | 11 => .int
  | 12 => .int
  | 13 => .int
  | 14 => .int
  | _ => .int
abbrev wsX20 : List Cond := u_ws RX2 TX2 16
theorem nmX2 : ∀ a, a < 16 → ∀ b, b < 16 → a ≠ b → (TX2 a).2.1 ≠ (TX2 b).2.1 := by decide +kernel
theorem tyX2_ok : ∀ k, k < 16 → parseFieldDescriptor (TX2 k).2.2.1 = some (tyX2 k) := by decide +kernel
abbrev cX2_init : ByteArray := prog_4_method_1_code
def yX2_init : MethodName := ⟨RX2, "<init>", "()V"⟩
abbrev cX2_make : ByteArray := prog_4_method_2_code
def yX2_make : MethodName := ⟨RX2, "make", "(LLongestTokens$Rules;LLongestTokens$Line;)V"⟩
abbrev cX2_readFrom : ByteArray := prog_4_method_3_code
def yX2_readFrom : MethodName := ⟨RX2, "readFrom", "(LLongestTokens$Rules;LLongestTokens$Line;II)V"⟩
abbrev cX2_doAct : ByteArray := prog_4_method_4_code
def yX2_doAct : MethodName := ⟨RX2, "doAct", "(LLongestTokens$Rules;I)V"⟩
abbrev cX2_reach : ByteArray := prog_4_method_5_code
def yX2_reach : MethodName := ⟨RX2, "reach", "(I)I"⟩
abbrev cX2_aheadOf : ByteArray := prog_4_method_6_code
def yX2_aheadOf : MethodName := ⟨RX2, "aheadOf", "(I)I"⟩
abbrev cX2_holder : ByteArray := prog_4_method_7_code
def yX2_holder : MethodName := ⟨RX2, "holder", "(I)I"⟩
abbrev cX2_endingAt : ByteArray := prog_4_method_8_code
def yX2_endingAt : MethodName := ⟨RX2, "endingAt", "(I)I"⟩
abbrev cX2_hasModesOf : ByteArray := prog_4_method_9_code
def yX2_hasModesOf : MethodName := ⟨RX2, "hasModesOf", "(ILLongestTokens$Cutting;I)Z"⟩
abbrev cX2_alike : ByteArray := prog_4_method_10_code
def yX2_alike : MethodName := ⟨RX2, "alike", "(LLongestTokens$Cutting;)I"⟩
abbrev cX2_stuckTokens : ByteArray := prog_4_method_11_code
def yX2_stuckTokens : MethodName := ⟨RX2, "stuckTokens", "()I"⟩
abbrev cX2_signsRead : ByteArray := prog_4_method_12_code
def yX2_signsRead : MethodName := ⟨RX2, "signsRead", "()I"⟩
def RX3 : String := "LongestTokens$Grammar"
def TX3 : u_T := fun k => match k with
  | 0 => ("LongestTokens$Grammar", "open", "I", false)
  | _ => ("LongestTokens$Grammar", "ruleNumber", "I", false)
def tyX3 : Nat → FieldType := fun k => match k with
  | 0 => .int
  | _ => .int
abbrev wsX30 : List Cond := u_ws RX3 TX3 2
theorem nmX3 : ∀ a, a < 2 → ∀ b, b < 2 → a ≠ b → (TX3 a).2.1 ≠ (TX3 b).2.1 := by decide +kernel
theorem tyX3_ok : ∀ k, k < 2 → parseFieldDescriptor (TX3 k).2.2.1 = some (tyX3 k) := by decide +kernel
abbrev cX3_init : ByteArray := prog_5_method_1_code
def yX3_init : MethodName := ⟨RX3, "<init>", "()V"⟩
abbrev cX3_faultOfRules : ByteArray := prog_5_method_2_code
def yX3_faultOfRules : MethodName := ⟨RX3, "faultOfRules", "(LLongestTokens$Text;)I"⟩
abbrev cX3_faultOfLetters : ByteArray := prog_5_method_3_code
def yX3_faultOfLetters : MethodName := ⟨RX3, "faultOfLetters", "(LLongestTokens$Text;)I"⟩
abbrev cX3_faultOfLine : ByteArray := prog_5_method_4_code
def yX3_faultOfLine : MethodName := ⟨RX3, "faultOfLine", "(LLongestTokens$Text;)I"⟩
abbrev cX3_faultOfDay : ByteArray := prog_5_method_5_code
def yX3_faultOfDay : MethodName := ⟨RX3, "faultOfDay", "(LLongestTokens$Text;)I"⟩
abbrev cX3_kindOfChange : ByteArray := prog_5_method_6_code
def yX3_kindOfChange : MethodName := ⟨RX3, "kindOfChange", "(I)I"⟩
abbrev cX3_isLetter : ByteArray := prog_5_method_7_code
def yX3_isLetter : MethodName := ⟨RX3, "isLetter", "(I)Z"⟩
abbrev cX3_isSign : ByteArray := prog_5_method_8_code
def yX3_isSign : MethodName := ⟨RX3, "isSign", "(I)Z"⟩
abbrev cX3_isDigit : ByteArray := prog_5_method_9_code
def yX3_isDigit : MethodName := ⟨RX3, "isDigit", "(I)Z"⟩
abbrev cX3_isModeDigit : ByteArray := prog_5_method_10_code
def yX3_isModeDigit : MethodName := ⟨RX3, "isModeDigit", "(I)Z"⟩
abbrev cX3_dueBehind : ByteArray := prog_5_method_11_code
def yX3_dueBehind : MethodName := ⟨RX3, "dueBehind", "(II)I"⟩
abbrev cX3_dueInPart : ByteArray := prog_5_method_12_code
def yX3_dueInPart : MethodName := ⟨RX3, "dueInPart", "(I)I"⟩
abbrev cX3_dueBehindPart : ByteArray := prog_5_method_13_code
def yX3_dueBehindPart : MethodName := ⟨RX3, "dueBehindPart", "(I)I"⟩
abbrev cX3_dueInNextRule : ByteArray := prog_5_method_14_code
def yX3_dueInNextRule : MethodName := ⟨RX3, "dueInNextRule", "()I"⟩
abbrev cX3_lettersOfMode : ByteArray := prog_5_method_15_code
def yX3_lettersOfMode : MethodName := ⟨RX3, "lettersOfMode", "(LLongestTokens$Text;I)I"⟩
def RX4 : String := "LongestTokens$History"
def TX4 : u_T := fun k => match k with
  | 0 => ("LongestTokens$History", "books", "[LLongestTokens$Book;", true)
  | 1 => ("LongestTokens$History", "oldest", "I", false)
  | _ => ("LongestTokens$History", "size", "I", false)
def tyX4 : Nat → FieldType := fun k => match k with
  | 0 => .array (.object "LongestTokens$Book")
  | 1 => .int
  | _ => .int
abbrev wsX40 : List Cond := u_ws RX4 TX4 3
theorem nmX4 : ∀ a, a < 3 → ∀ b, b < 3 → a ≠ b → (TX4 a).2.1 ≠ (TX4 b).2.1 := by decide +kernel
theorem tyX4_ok : ∀ k, k < 3 → parseFieldDescriptor (TX4 k).2.2.1 = some (tyX4 k) := by decide +kernel
abbrev cX4_init : ByteArray := prog_6_method_1_code
def yX4_init : MethodName := ⟨RX4, "<init>", "()V"⟩
abbrev cX4_push : ByteArray := prog_6_method_2_code
def yX4_push : MethodName := ⟨RX4, "push", "(LLongestTokens$Book;)V"⟩
abbrev cX4_pop : ByteArray := prog_6_method_3_code
def yX4_pop : MethodName := ⟨RX4, "pop", "(LLongestTokens$Book;)Z"⟩
abbrev cX4_forget : ByteArray := prog_6_method_4_code
def yX4_forget : MethodName := ⟨RX4, "forget", "()V"⟩
abbrev cX4_slotAt : ByteArray := prog_6_method_5_code
def yX4_slotAt : MethodName := ⟨RX4, "slotAt", "(I)LLongestTokens$Book;"⟩
def RX5 : String := "LongestTokens$Line"
def TX5 : u_T := fun k => match k with
  | 0 => ("LongestTokens$Line", "signs", "[I", true)
  | _ => ("LongestTokens$Line", "length", "I", false)
def tyX5 : Nat → FieldType := fun k => match k with
  | 0 => .array .int
  | _ => .int
abbrev wsX50 : List Cond := u_ws RX5 TX5 2
theorem nmX5 : ∀ a, a < 2 → ∀ b, b < 2 → a ≠ b → (TX5 a).2.1 ≠ (TX5 b).2.1 := by decide +kernel
theorem tyX5_ok : ∀ k, k < 2 → parseFieldDescriptor (TX5 k).2.2.1 = some (tyX5 k) := by decide +kernel
abbrev cX5_init : ByteArray := prog_7_method_1_code
def yX5_init : MethodName := ⟨RX5, "<init>", "()V"⟩
abbrev cX5_has : ByteArray := prog_7_method_2_code
def yX5_has : MethodName := ⟨RX5, "has", "(I)Z"⟩
abbrev cX5_get : ByteArray := prog_7_method_3_code
def yX5_get : MethodName := ⟨RX5, "get", "(I)I"⟩
abbrev cX5_copy : ByteArray := prog_7_method_4_code
def yX5_copy : MethodName := ⟨RX5, "copy", "(LLongestTokens$Line;)V"⟩
abbrev cX5_take : ByteArray := prog_7_method_5_code
def yX5_take : MethodName := ⟨RX5, "take", "(LLongestTokens$Text;)V"⟩
abbrev cX5_refusal : ByteArray := prog_7_method_6_code
def yX5_refusal : MethodName := ⟨RX5, "refusal", "(III)I"⟩
abbrev cX5_change : ByteArray := prog_7_method_7_code
def yX5_change : MethodName := ⟨RX5, "change", "(III)V"⟩
abbrev cX5_put : ByteArray := prog_7_method_8_code
def yX5_put : MethodName := ⟨RX5, "put", "(II)V"⟩
abbrev cX5_insert : ByteArray := prog_7_method_9_code
def yX5_insert : MethodName := ⟨RX5, "insert", "(II)V"⟩
abbrev cX5_remove : ByteArray := prog_7_method_10_code
def yX5_remove : MethodName := ⟨RX5, "remove", "(I)V"⟩
def RX6 : String := "LongestTokens$Pairs"
def TX6 : u_T := fun k => match k with
  | 0 => ("LongestTokens$Pairs", "keys", "[[I", true)
  | 1 => ("LongestTokens$Pairs", "times", "[[I", true)
  | 2 => ("LongestTokens$Pairs", "sizes", "[I", true)
  | 3 => ("LongestTokens$Pairs", "total", "I", false)
  | _ => ("LongestTokens$Pairs", "signsRead", "I", false)
def tyX6 : Nat → FieldType := fun k => match k with
  | 0 => .array (.array .int)
  | 1 => .array (.array .int)
  | 2 => .array .int
  | 3 => .int
  | _ => .int
abbrev wsX60 : List Cond := u_ws RX6 TX6 5
theorem nmX6 : ∀ a, a < 5 → ∀ b, b < 5 → a ≠ b → (TX6 a).2.1 ≠ (TX6 b).2.1 := by decide +kernel
theorem tyX6_ok : ∀ k, k < 5 → parseFieldDescriptor (TX6 k).2.2.1 = some (tyX6 k) := by decide +kernel
abbrev cX6_init : ByteArray := prog_8_method_1_code
def yX6_init : MethodName := ⟨RX6, "<init>", "()V"⟩
abbrev cX6_walk : ByteArray := prog_8_method_2_code
def yX6_walk : MethodName := ⟨RX6, "walk", "(LLongestTokens$Rules;LLongestTokens$Line;LLongestTokens$Cutting;)V"⟩
abbrev cX6_remember : ByteArray := prog_8_method_3_code
def yX6_remember : MethodName := ⟨RX6, "remember", "(LLongestTokens$Rules;LLongestTokens$Line;LLongestTokens$Cutting;)V"⟩
abbrev cX6_readOn : ByteArray := prog_8_method_4_code
def yX6_readOn : MethodName := ⟨RX6, "readOn", "(LLongestTokens$Rules;LLongestTokens$Line;III)V"⟩
abbrev cX6_repeated : ByteArray := prog_8_method_5_code
def yX6_repeated : MethodName := ⟨RX6, "repeated", "()I"⟩
abbrev cX6_mostTimes : ByteArray := prog_8_method_6_code
def yX6_mostTimes : MethodName := ⟨RX6, "mostTimes", "()I"⟩
abbrev cX6_clear : ByteArray := prog_8_method_7_code
def yX6_clear : MethodName := ⟨RX6, "clear", "()V"⟩
abbrev cX6_keyOf : ByteArray := prog_8_method_8_code
def yX6_keyOf : MethodName := ⟨RX6, "keyOf", "(II)I"⟩
abbrev cX6_indexOf : ByteArray := prog_8_method_9_code
def yX6_indexOf : MethodName := ⟨RX6, "indexOf", "(II)I"⟩
abbrev cX6_comeTo : ByteArray := prog_8_method_10_code
def yX6_comeTo : MethodName := ⟨RX6, "comeTo", "(II)V"⟩
def RX7 : String := "LongestTokens$Rules"
def TX7 : u_T := fun k => match k with
  | 0 => ("LongestTokens$Rules", "total", "I", false)
  | 1 => ("LongestTokens$Rules", "mode", "[I", true)
  | 2 => ("LongestTokens$Rules", "letters", "[I", true)
  | 3 => ("LongestTokens$Rules", "act", "[I", true)
  | 4 => ("LongestTokens$Rules", "digit", "[I", true)
  | 5 => ("LongestTokens$Rules", "last", "[I", true)
  | 6 => ("LongestTokens$Rules", "empty", "[Z", true)
  | 7 => ("LongestTokens$Rules", "used", "[I", true)
  | 8 => ("LongestTokens$Rules", "opening", "[I", true)
  | 9 => ("LongestTokens$Rules", "follow", "[[I", true)
  | _ => ("LongestTokens$Rules", "takers", "[[I", true)
def tyX7 : Nat → FieldType := fun k => match k with
  | 0 => .int
  | 1 => .array .int
  | 2 => .array .int
  | 3 => .array .int
  | 4 => .array .int
  | 5 => .array .int
  | 6 => .array .boolean
  | 7 => .array .int
  | 8 => .array .int
  | 9 => .array (.array .int)
  | _ => .array (.array .int)
abbrev wsX70 : List Cond := u_ws RX7 TX7 11
theorem nmX7 : ∀ a, a < 11 → ∀ b, b < 11 → a ≠ b → (TX7 a).2.1 ≠ (TX7 b).2.1 := by decide +kernel
theorem tyX7_ok : ∀ k, k < 11 → parseFieldDescriptor (TX7 k).2.2.1 = some (tyX7 k) := by decide +kernel
abbrev cX7_init : ByteArray := prog_9_method_1_code
def yX7_init : MethodName := ⟨RX7, "<init>", "()V"⟩
abbrev cX7_clear : ByteArray := prog_9_method_2_code
def yX7_clear : MethodName := ⟨RX7, "clear", "()V"⟩
abbrev cX7_atFirst : ByteArray := prog_9_method_3_code
def yX7_atFirst : MethodName := ⟨RX7, "atFirst", "(I)I"⟩
abbrev cX7_after : ByteArray := prog_9_method_4_code
def yX7_after : MethodName := ⟨RX7, "after", "(II)I"⟩
abbrev cX7_takersOf : ByteArray := prog_9_method_5_code
def yX7_takersOf : MethodName := ⟨RX7, "takersOf", "(II)I"⟩
abbrev cX7_signsTakenBy : ByteArray := prog_9_method_6_code
def yX7_signsTakenBy : MethodName := ⟨RX7, "signsTakenBy", "(II)I"⟩
abbrev cX7_standing : ByteArray := prog_9_method_7_code
def yX7_standing : MethodName := ⟨RX7, "standing", "(ILLongestTokens$Line;II)I"⟩
abbrev cX7_winner : ByteArray := prog_9_method_8_code
def yX7_winner : MethodName := ⟨RX7, "winner", "(II)I"⟩
abbrev cX7_matching : ByteArray := prog_9_method_9_code
def yX7_matching : MethodName := ⟨RX7, "matching", "(II)I"⟩
abbrev cX7_matchingNothing : ByteArray := prog_9_method_10_code
def yX7_matchingNothing : MethodName := ⟨RX7, "matchingNothing", "(I)I"⟩
abbrev cX7_lettersOfAll : ByteArray := prog_9_method_11_code
def yX7_lettersOfAll : MethodName := ⟨RX7, "lettersOfAll", "()I"⟩
abbrev cX7_modesWithRules : ByteArray := prog_9_method_12_code
def yX7_modesWithRules : MethodName := ⟨RX7, "modesWithRules", "()I"⟩
def RX8 : String := "LongestTokens$Search"
def TX8 : u_T := fun k => match k with
  | 0 => ("LongestTokens$Search", "queue", "[I", true)
  | 1 => ("LongestTokens$Search", "cameBy", "[I", true)
  | 2 => ("LongestTokens$Search", "path", "[I", true)
  | _ => ("LongestTokens$Search", "size", "I", false)
def tyX8 : Nat → FieldType := fun k => match k with
  | 0 => .array .int
  | 1 => .array .int
  | 2 => .array .int
  | _ => .int
abbrev wsX80 : List Cond := u_ws RX8 TX8 4
theorem nmX8 : ∀ a, a < 4 → ∀ b, b < 4 → a ≠ b → (TX8 a).2.1 ≠ (TX8 b).2.1 := by decide +kernel
theorem tyX8_ok : ∀ k, k < 4 → parseFieldDescriptor (TX8 k).2.2.1 = some (tyX8 k) := by decide +kernel
abbrev cX8_init : ByteArray := prog_10_method_1_code
def yX8_init : MethodName := ⟨RX8, "<init>", "()V"⟩
abbrev cX8_explore : ByteArray := prog_10_method_2_code
def yX8_explore : MethodName := ⟨RX8, "explore", "(LLongestTokens$Rules;I)V"⟩
abbrev cX8_trace : ByteArray := prog_10_method_3_code
def yX8_trace : MethodName := ⟨RX8, "trace", "(I)I"⟩
abbrev cX8_spread : ByteArray := prog_10_method_4_code
def yX8_spread : MethodName := ⟨RX8, "spread", "(LLongestTokens$Rules;III)V"⟩
def RX9 : String := "LongestTokens$Splits"
def TX9 : u_T := fun k => match k with
  | 0 => ("LongestTokens$Splits", "ends", "[I", true)
  | 1 => ("LongestTokens$Splits", "cuts", "[I", true)
  | _ => ("LongestTokens$Splits", "rows", "[I", true)
def tyX9 : Nat → FieldType := fun k => match k with
  | 0 => .array .int
  | 1 => .array .int
  | _ => .array .int
abbrev wsX90 : List Cond := u_ws RX9 TX9 3
theorem nmX9 : ∀ a, a < 3 → ∀ b, b < 3 → a ≠ b → (TX9 a).2.1 ≠ (TX9 b).2.1 := by decide +kernel
theorem tyX9_ok : ∀ k, k < 3 → parseFieldDescriptor (TX9 k).2.2.1 = some (tyX9 k) := by decide +kernel
abbrev cX9_init : ByteArray := prog_11_method_1_code
def yX9_init : MethodName := ⟨RX9, "<init>", "()V"⟩
abbrev cX9_make : ByteArray := prog_11_method_2_code
def yX9_make : MethodName := ⟨RX9, "make", "(LLongestTokens$Rules;LLongestTokens$Line;II)V"⟩
abbrev cX9_leads : ByteArray := prog_11_method_3_code
def yX9_leads : MethodName := ⟨RX9, "leads", "(II)Z"⟩
abbrev cX9_addRow : ByteArray := prog_11_method_4_code
def yX9_addRow : MethodName := ⟨RX9, "addRow", "(II)V"⟩
abbrev cX9_endsFrom : ByteArray := prog_11_method_5_code
def yX9_endsFrom : MethodName := ⟨RX9, "endsFrom", "(LLongestTokens$Rules;LLongestTokens$Line;II)I"⟩
def RX10 : String := "LongestTokens$Text"
def TX10 : u_T := fun k => match k with
  | 0 => ("LongestTokens$Text", "signs", "[I", true)
  | _ => ("LongestTokens$Text", "length", "I", false)
def tyX10 : Nat → FieldType := fun k => match k with
  | 0 => .array .int
  | _ => .int
abbrev wsX100 : List Cond := u_ws RX10 TX10 2
theorem nmX10 : ∀ a, a < 2 → ∀ b, b < 2 → a ≠ b → (TX10 a).2.1 ≠ (TX10 b).2.1 := by decide +kernel
theorem tyX10_ok : ∀ k, k < 2 → parseFieldDescriptor (TX10 k).2.2.1 = some (tyX10 k) := by decide +kernel
abbrev cX10_init : ByteArray := prog_12_method_1_code
def yX10_init : MethodName := ⟨RX10, "<init>", "()V"⟩
abbrev cX10_addFour : ByteArray := prog_12_method_2_code
def yX10_addFour : MethodName := ⟨RX10, "addFour", "(I)Z"⟩
abbrev cX10_shorten : ByteArray := prog_12_method_3_code
def yX10_shorten : MethodName := ⟨RX10, "shorten", "(I)Z"⟩
abbrev cX10_empty : ByteArray := prog_12_method_4_code
def yX10_empty : MethodName := ⟨RX10, "empty", "()V"⟩
abbrev cX10_get : ByteArray := prog_12_method_5_code
def yX10_get : MethodName := ⟨RX10, "get", "(I)I"⟩
def RX11 : String := "LongestTokens"
def TX11 : u_T := fun k => match k with
  | 0 => ("LongestTokens", "text", "LLongestTokens$Text;", true)
  | 1 => ("LongestTokens", "grammar", "LLongestTokens$Grammar;", true)
  | 2 => ("LongestTokens", "builder", "LLongestTokens$Builder;", true)
  | 3 => ("LongestTokens", "now", "LLongestTokens$Book;", true)
  | 4 => ("LongestTokens", "table", "LLongestTokens$Rules;", true)
  | 5 => ("LongestTokens", "cutting", "LLongestTokens$Cutting;", false)
  | 6 => ("LongestTokens", "otherTable", "LLongestTokens$Rules;", true)
  | 7 => ("LongestTokens", "otherLine", "LLongestTokens$Line;", true)
  | 8 => ("LongestTokens", "otherCutting", "LLongestTokens$Cutting;", false)
  | 9 => ("LongestTokens", "pairs", "LLongestTokens$Pairs;", true)
  | 10 => ("LongestTokens", "search", "LLongestTokens$Search;", true)
  | 11 => ("LongestTokens", "splits", "LLongestTokens$Splits;", true)
  | 12 => ("LongestTokens", "history", "LLongestTokens$History;", true)
  | 13 => ("LongestTokens", "kept", "[LLongestTokens$Book;", true)
  | 14 => ("LongestTokens", "numbers", "[J", true)
  | _ => ("LongestTokens", "told", "I", false)
def tyX11 : Nat → FieldType := fun k => match k with
  | 0 => .object "LongestTokens$Text"
  | 1 => .object "LongestTokens$Grammar"
  | 2 => .object "LongestTokens$Builder"
  | 3 => .object "LongestTokens$Book"
  | 4 => .object "LongestTokens$Rules"
  | 5 => .object "LongestTokens$Cutting"
  | 6 => .object "LongestTokens$Rules"
  | 7 => .object "LongestTokens$Line"
  | 8 => .object "LongestTokens$Cutting"
  | 9 => .object "LongestTokens$Pairs"
  | 10 => .object "LongestTokens$Search"
  | 11 => .object "LongestTokens$Splits"
  | 12 => .object "LongestTokens$History"
  | 13 => .array (.object "LongestTokens$Book")
  | 14 => .array .long
  | _ => .int
abbrev wsX110 : List Cond := u_ws RX11 TX11 16
theorem nmX11 : ∀ a, a < 16 → ∀ b, b < 16 → a ≠ b → (TX11 a).2.1 ≠ (TX11 b).2.1 := by decide +kernel
theorem tyX11_ok : ∀ k, k < 16 → parseFieldDescriptor (TX11 k).2.2.1 = some (tyX11 k) := by decide +kernel
abbrev cX11_init : ByteArray := prog_1_method_1_code
def yX11_init : MethodName := ⟨RX11, "<init>", "()V"⟩
abbrev cX11_sign : ByteArray := prog_1_method_2_code
def yX11_sign : MethodName := ⟨RX11, "sign", "(I)I"⟩
abbrev cX11_end : ByteArray := prog_1_method_3_code
def yX11_end : MethodName := ⟨RX11, "end", "(I)Z"⟩
abbrev cX11_rules : ByteArray := prog_1_method_4_code
def yX11_rules : MethodName := ⟨RX11, "rules", "()I"⟩
abbrev cX11_line : ByteArray := prog_1_method_5_code
def yX11_line : MethodName := ⟨RX11, "line", "()I"⟩
abbrev cX11_rule : ByteArray := prog_1_method_6_code
def yX11_rule : MethodName := ⟨RX11, "rule", "(II)I"⟩
abbrev cX11_at : ByteArray := prog_1_method_7_code
def yX11_at : MethodName := ⟨RX11, "at", "(I)I"⟩
abbrev cX11_sheet : ByteArray := prog_1_method_8_code
def yX11_sheet : MethodName := ⟨RX11, "sheet", "(IIII)I"⟩
abbrev cX11_cut : ByteArray := prog_1_method_9_code
def yX11_cut : MethodName := ⟨RX11, "cut", "()I"⟩
abbrev cX11_token : ByteArray := prog_1_method_10_code
def yX11_token : MethodName := ⟨RX11, "token", "(II)I"⟩
abbrev cX11_modes : ByteArray := prog_1_method_11_code
def yX11_modes : MethodName := ⟨RX11, "modes", "(I)I"⟩
abbrev cX11_holds : ByteArray := prog_1_method_12_code
def yX11_holds : MethodName := ⟨RX11, "holds", "(I)I"⟩
abbrev cX11_stuck : ByteArray := prog_1_method_13_code
def yX11_stuck : MethodName := ⟨RX11, "stuck", "()I"⟩
abbrev cX11_by : ByteArray := prog_1_method_14_code
def yX11_by : MethodName := ⟨RX11, "by", "(I)I"⟩
abbrev cX11_like : ByteArray := prog_1_method_15_code
def yX11_like : MethodName := ⟨RX11, "like", "(I)I"⟩
abbrev cX11_moded : ByteArray := prog_1_method_16_code
def yX11_moded : MethodName := ⟨RX11, "moded", "(I)I"⟩
abbrev cX11_readers : ByteArray := prog_1_method_17_code
def yX11_readers : MethodName := ⟨RX11, "readers", "(I)I"⟩
abbrev cX11_read : ByteArray := prog_1_method_18_code
def yX11_read : MethodName := ⟨RX11, "read", "()I"⟩
abbrev cX11_twice : ByteArray := prog_1_method_19_code
def yX11_twice : MethodName := ⟨RX11, "twice", "()I"⟩
abbrev cX11_longest : ByteArray := prog_1_method_20_code
def yX11_longest : MethodName := ⟨RX11, "longest", "(II)I"⟩
abbrev cX11_matches : ByteArray := prog_1_method_21_code
def yX11_matches : MethodName := ⟨RX11, "matches", "(II)I"⟩
abbrev cX11_stands : ByteArray := prog_1_method_22_code
def yX11_stands : MethodName := ⟨RX11, "stands", "(III)I"⟩
abbrev cX11_states : ByteArray := prog_1_method_23_code
def yX11_states : MethodName := ⟨RX11, "states", "(I)I"⟩
abbrev cX11_shortest : ByteArray := prog_1_method_24_code
def yX11_shortest : MethodName := ⟨RX11, "shortest", "(I)I"⟩
abbrev cX11_idle : ByteArray := prog_1_method_25_code
def yX11_idle : MethodName := ⟨RX11, "idle", "()I"⟩
abbrev cX11_overlap : ByteArray := prog_1_method_26_code
def yX11_overlap : MethodName := ⟨RX11, "overlap", "(II)I"⟩
abbrev cX11_ways : ByteArray := prog_1_method_27_code
def yX11_ways : MethodName := ⟨RX11, "ways", "(II)I"⟩
abbrev cX11_fewest : ByteArray := prog_1_method_28_code
def yX11_fewest : MethodName := ⟨RX11, "fewest", "(II)I"⟩
abbrev cX11_touched : ByteArray := prog_1_method_29_code
def yX11_touched : MethodName := ⟨RX11, "touched", "(I)I"⟩
abbrev cX11_same : ByteArray := prog_1_method_30_code
def yX11_same : MethodName := ⟨RX11, "same", "(IIIII)I"⟩
abbrev cX11_becomes : ByteArray := prog_1_method_31_code
def yX11_becomes : MethodName := ⟨RX11, "becomes", "(II)I"⟩
abbrev cX11_comes : ByteArray := prog_1_method_32_code
def yX11_comes : MethodName := ⟨RX11, "comes", "(II)I"⟩
abbrev cX11_goes : ByteArray := prog_1_method_33_code
def yX11_goes : MethodName := ⟨RX11, "goes", "(I)I"⟩
abbrev cX11_mends : ByteArray := prog_1_method_34_code
def yX11_mends : MethodName := ⟨RX11, "mends", "(I)I"⟩
abbrev cX11_day : ByteArray := prog_1_method_35_code
def yX11_day : MethodName := ⟨RX11, "day", "()I"⟩
abbrev cX11_undo : ByteArray := prog_1_method_36_code
def yX11_undo : MethodName := ⟨RX11, "undo", "()I"⟩
abbrev cX11_years : ByteArray := prog_1_method_37_code
def yX11_years : MethodName := ⟨RX11, "years", "(II)I"⟩
abbrev cX11_keep : ByteArray := prog_1_method_38_code
def yX11_keep : MethodName := ⟨RX11, "keep", "(I)Z"⟩
abbrev cX11_again : ByteArray := prog_1_method_39_code
def yX11_again : MethodName := ⟨RX11, "again", "(I)Z"⟩
abbrev cX11_count : ByteArray := prog_1_method_40_code
def yX11_count : MethodName := ⟨RX11, "count", "(I)I"⟩
abbrev cX11_row : ByteArray := prog_1_method_41_code
def yX11_row : MethodName := ⟨RX11, "row", "(I)J"⟩
abbrev cX11_tell : ByteArray := prog_1_method_42_code
def yX11_tell : MethodName := ⟨RX11, "tell", "(J)V"⟩
abbrev cX11_tellRowTo : ByteArray := prog_1_method_43_code
def yX11_tellRowTo : MethodName := ⟨RX11, "tellRowTo", "(I)I"⟩
abbrev cX11_refresh : ByteArray := prog_1_method_44_code
def yX11_refresh : MethodName := ⟨RX11, "refresh", "()V"⟩
abbrev cX11_recut : ByteArray := prog_1_method_45_code
def yX11_recut : MethodName := ⟨RX11, "recut", "()V"⟩
abbrev cX11_isStretch : ByteArray := prog_1_method_46_code
def yX11_isStretch : MethodName := ⟨RX11, "isStretch", "(II)Z"⟩
abbrev cX11_change : ByteArray := prog_1_method_47_code
def yX11_change : MethodName := ⟨RX11, "change", "(III)I"⟩
abbrev cX11_tellChange : ByteArray := prog_1_method_48_code
def yX11_tellChange : MethodName := ⟨RX11, "tellChange", "(II)V"⟩
abbrev cX11_changeByText : ByteArray := prog_1_method_49_code
def yX11_changeByText : MethodName := ⟨RX11, "changeByText", "()I"⟩
abbrev cX11_isMode : ByteArray := prog_1_method_50_code
def yX11_isMode : MethodName := ⟨RX11, "isMode", "(I)Z"⟩
abbrev cX11_narrowed : ByteArray := prog_1_method_51_code
def yX11_narrowed : MethodName := ⟨RX11, "narrowed", "(II)I"⟩
abbrev cX11_firstOf : ByteArray := prog_1_method_52_code
def yX11_firstOf : MethodName := ⟨RX11, "firstOf", "(I)I"⟩
abbrev cX11_nextOf : ByteArray := prog_1_method_53_code
def yX11_nextOf : MethodName := ⟨RX11, "nextOf", "(I)I"⟩
abbrev cX11_drawn : ByteArray := prog_1_method_54_code
def yX11_drawn : MethodName := ⟨RX11, "drawn", "(II)I"⟩
def RX12 : String := "LongestTokensModel"
def TX12 : u_T := fun k => match k with
  | 0 => ("LongestTokensModel", "now", "[I", true)
  | 1 => ("LongestTokensModel", "text", "[B", true)
  | 2 => ("LongestTokensModel", "typed", "I", false)
  | 3 => ("LongestTokensModel", "row", "[J", true)
  | 4 => ("LongestTokensModel", "rowMany", "I", false)
  | 5 => ("LongestTokensModel", "thrown", "I", false)
  | 6 => ("LongestTokensModel", "signs", "[I", true)
  | 7 => ("LongestTokensModel", "length", "I", false)
  | 8 => ("LongestTokensModel", "at", "I", false)
  | 9 => ("LongestTokensModel", "wrong", "I", false)
  | 10 => ("LongestTokensModel", "ruleMany", "I", false)
  | 11 => ("LongestTokensModel", "mode", "[I", true)
  | 12 => ("LongestTokensModel", "letterMany", "[I", true)
  | 13 => ("LongestTokensModel", "act", "[I", true)
  | 14 => ("LongestTokensModel", "digit", "[I", true)
  | 15 => ("LongestTokensModel", "empty", "[Z", true)
  | 16 => ("LongestTokensModel", "begins", "[I", true)
  | 17 => ("LongestTokensModel", "ends", "[I", true)
  | 18 => ("LongestTokensModel", "modeLetters", "[I", true)
  | 19 => ("LongestTokensModel", "taken", "[I", true)
  | 20 => ("LongestTokensModel", "behind", "[I", true)
  | 21 => ("LongestTokensModel", "canBeNothing", "Z", false)
  | 22 => ("LongestTokensModel", "firsts", "I", false)
  | 23 => ("LongestTokensModel", "lasts", "I", false)
  | 24 => ("LongestTokensModel", "open", "I", false)
  | 25 => ("LongestTokensModel", "drafted", "[I", true)
  | 26 => ("LongestTokensModel", "place", "I", false)
  | 27 => ("LongestTokensModel", "stack", "[I", true)
  | 28 => ("LongestTokensModel", "stackMany", "I", false)
  | 29 => ("LongestTokensModel", "mostModes", "I", false)
  | 30 => ("LongestTokensModel", "tokens", "[I", true)
  | 31 => ("LongestTokensModel", "tokenMany", "I", false)
  | 32 => ("LongestTokensModel", "readMany", "I", false)
  | 33 => ("LongestTokensModel", "often", "[I", true)
  | 34 => ("LongestTokensModel", "failed", "[Z", true)
  | 35 => ("LongestTokensModel", "met", "[I", true)
  | 36 => ("LongestTokensModel", "kept", "[I", true)
  | 37 => ("LongestTokensModel", "isKept", "[Z", true)
  | 38 => ("LongestTokensModel", "old", "[I", true)
  | 39 => ("LongestTokensModel", "oldMany", "I", false)
  | 40 => ("LongestTokensModel", "found", "[I", true)
  | 41 => ("LongestTokensModel", "foundFrom", "[I", true)
  | 42 => ("LongestTokensModel", "foundBy", "[I", true)
  | 43 => ("LongestTokensModel", "isFound", "[Z", true)
  | 44 => ("LongestTokensModel", "foundMany", "I", false)
  | 45 => ("LongestTokensModel", "spelt", "[I", true)
  | 46 => ("LongestTokensModel", "wayMany", "[I", true)
  | 47 => ("LongestTokensModel", "wayFew", "[I", true)
  | 48 => ("LongestTokensModel", "fewFrom", "[I", true)
  | 49 => ("LongestTokensModel", "firstTo", "[I", true)
  | 50 => ("LongestTokensModel", "undos", "[I", true)
  | 51 => ("LongestTokensModel", "undoMany", "I", false)
  | 52 => ("LongestTokensModel", "then", "[I", true)
  | 53 => ("LongestTokensModel", "acts", "[I", true)
  | _ => ("LongestTokensModel", "drawn", "I", false)
def tyX12 : Nat → FieldType := fun k => match k with
  | 0 => .array .int
  | 1 => .array .byte
  | 2 => .int
  | 3 => .array .long
  | 4 => .int
  | 5 => .int
  | 6 => .array .int
  | 7 => .int
  | 8 => .int
  | 9 => .int
  | 10 => .int
  | 11 => .array .int
  | 12 => .array .int
  | 13 => .array .int
  | 14 => .array .int
  | 15 => .array .boolean
  | 16 => .array .int
  | 17 => .array .int
  | 18 => .array .int
  | 19 => .array .int
  | 20 => .array .int
  | 21 => .boolean
  | 22 => .int
  | 23 => .int
  | 24 => .int
  | 25 => .array .int
  | 26 => .int
  | 27 => .array .int
  | 28 => .int
  | 29 => .int
  | 30 => .array .int
  | 31 => .int
  | 32 => .int
  | 33 => .array .int
  | 34 => .array .boolean
  | 35 => .array .int
  | 36 => .array .int
  | 37 => .array .boolean
  | 38 => .array .int
  | 39 => .int
  | 40 => .array .int
  | 41 => .array .int
  | 42 => .array .int
  | 43 => .array .boolean
  | 44 => .int
  | 45 => .array .int
  | 46 => .array .int
  | 47 => .array .int
  | 48 => .array .int
  | 49 => .array .int
  | 50 => .array .int
  | 51 => .int
  | 52 => .array .int
  | 53 => .array .int
  | _ => .int
abbrev wsX120 : List Cond := u_ws RX12 TX12 55
theorem nmX12 : ∀ a, a < 55 → ∀ b, b < 55 → a ≠ b → (TX12 a).2.1 ≠ (TX12 b).2.1 := by decide +kernel
theorem tyX12_ok : ∀ k, k < 55 → parseFieldDescriptor (TX12 k).2.2.1 = some (tyX12 k) := by decide +kernel
abbrev cX12_init : ByteArray := prog_14_method_1_code
def yX12_init : MethodName := ⟨RX12, "<init>", "()V"⟩
abbrev cX12_in : ByteArray := prog_14_method_3_code
def yX12_in : MethodName := ⟨RX12, "in", "(III)Z"⟩
abbrev cX12_lost : ByteArray := prog_14_method_4_code
def yX12_lost : MethodName := ⟨RX12, "lost", "()I"⟩
abbrev cX12_tell : ByteArray := prog_14_method_5_code
def yX12_tell : MethodName := ⟨RX12, "tell", "(J)V"⟩
abbrev cX12_sign : ByteArray := prog_14_method_6_code
def yX12_sign : MethodName := ⟨RX12, "sign", "(I)I"⟩
abbrev cX12_end : ByteArray := prog_14_method_7_code
def yX12_end : MethodName := ⟨RX12, "end", "(I)Z"⟩
abbrev cX12_begin : ByteArray := prog_14_method_8_code
def yX12_begin : MethodName := ⟨RX12, "begin", "()V"⟩
abbrev cX12_here : ByteArray := prog_14_method_9_code
def yX12_here : MethodName := ⟨RX12, "here", "()I"⟩
abbrev cX12_fine : ByteArray := prog_14_method_10_code
def yX12_fine : MethodName := ⟨RX12, "fine", "()Z"⟩
abbrev cX12_fault : ByteArray := prog_14_method_11_code
def yX12_fault : MethodName := ⟨RX12, "fault", "(I)V"⟩
abbrev cX12_passes : ByteArray := prog_14_method_12_code
def yX12_passes : MethodName := ⟨RX12, "passes", "(C)Z"⟩
abbrev cX12_need : ByteArray := prog_14_method_13_code
def yX12_need : MethodName := ⟨RX12, "need", "(C)V"⟩
abbrev cX12_oneOf : ByteArray := prog_14_method_14_code
def yX12_oneOf : MethodName := ⟨RX12, "oneOf", "(CI)I"⟩
abbrev cX12_twoDigits : ByteArray := prog_14_method_15_code
def yX12_twoDigits : MethodName := ⟨RX12, "twoDigits", "()I"⟩
abbrev cX12_wasRight : ByteArray := prog_14_method_16_code
def yX12_wasRight : MethodName := ⟨RX12, "wasRight", "()Z"⟩
abbrev cX12_follow : ByteArray := prog_14_method_17_code
def yX12_follow : MethodName := ⟨RX12, "follow", "(III)V"⟩
abbrev cX12_readLetter : ByteArray := prog_14_method_18_code
def yX12_readLetter : MethodName := ⟨RX12, "readLetter", "(I)V"⟩
abbrev cX12_readPart : ByteArray := prog_14_method_19_code
def yX12_readPart : MethodName := ⟨RX12, "readPart", "(I)V"⟩
abbrev cX12_isPart : ByteArray := prog_14_method_20_code
def yX12_isPart : MethodName := ⟨RX12, "isPart", "()Z"⟩
abbrev cX12_readChain : ByteArray := prog_14_method_21_code
def yX12_readChain : MethodName := ⟨RX12, "readChain", "(I)V"⟩
abbrev cX12_readWay : ByteArray := prog_14_method_22_code
def yX12_readWay : MethodName := ⟨RX12, "readWay", "(I)V"⟩
abbrev cX12_readRule : ByteArray := prog_14_method_23_code
def yX12_readRule : MethodName := ⟨RX12, "readRule", "(I)V"⟩
abbrev cX12_readRules : ByteArray := prog_14_method_24_code
def yX12_readRules : MethodName := ⟨RX12, "readRules", "()Z"⟩
abbrev cX12_layRules : ByteArray := prog_14_method_25_code
def yX12_layRules : MethodName := ⟨RX12, "layRules", "([I)V"⟩
abbrev cX12_crowded : ByteArray := prog_14_method_26_code
def yX12_crowded : MethodName := ⟨RX12, "crowded", "()I"⟩
abbrev cX12_rules : ByteArray := prog_14_method_27_code
def yX12_rules : MethodName := ⟨RX12, "rules", "()I"⟩
abbrev cX12_line : ByteArray := prog_14_method_28_code
def yX12_line : MethodName := ⟨RX12, "line", "()I"⟩
abbrev cX12_setLine : ByteArray := prog_14_method_29_code
def yX12_setLine : MethodName := ⟨RX12, "setLine", "(I)V"⟩
abbrev cX12_rule : ByteArray := prog_14_method_30_code
def yX12_rule : MethodName := ⟨RX12, "rule", "(II)I"⟩
abbrev cX12_at : ByteArray := prog_14_method_31_code
def yX12_at : MethodName := ⟨RX12, "at", "(I)I"⟩
abbrev cX12_sheet : ByteArray := prog_14_method_32_code
def yX12_sheet : MethodName := ⟨RX12, "sheet", "(IIII)I"⟩
abbrev cX12_step : ByteArray := prog_14_method_33_code
def yX12_step : MethodName := ⟨RX12, "step", "(IIZI)I"⟩
abbrev cX12_winner : ByteArray := prog_14_method_34_code
def yX12_winner : MethodName := ⟨RX12, "winner", "(II)I"⟩
abbrev cX12_pairOf : ByteArray := prog_14_method_35_code
def yX12_pairOf : MethodName := ⟨RX12, "pairOf", "(III)I"⟩
abbrev cX12_atFirst : ByteArray := prog_14_method_36_code
def yX12_atFirst : MethodName := ⟨RX12, "atFirst", "()V"⟩
abbrev cX12_doAct : ByteArray := prog_14_method_37_code
def yX12_doAct : MethodName := ⟨RX12, "doAct", "(I)V"⟩
abbrev cX12_cutOne : ByteArray := prog_14_method_38_code
def yX12_cutOne : MethodName := ⟨RX12, "cutOne", "(Z)V"⟩
abbrev cX12_forget : ByteArray := prog_14_method_39_code
def yX12_forget : MethodName := ⟨RX12, "forget", "()V"⟩
abbrev cX12_cutAll : ByteArray := prog_14_method_40_code
def yX12_cutAll : MethodName := ⟨RX12, "cutAll", "(Z)V"⟩
abbrev cX12_of : ByteArray := prog_14_method_41_code
def yX12_of : MethodName := ⟨RX12, "of", "(II)I"⟩
abbrev cX12_cut : ByteArray := prog_14_method_42_code
def yX12_cut : MethodName := ⟨RX12, "cut", "()I"⟩
abbrev cX12_token : ByteArray := prog_14_method_43_code
def yX12_token : MethodName := ⟨RX12, "token", "(II)I"⟩
abbrev cX12_modes : ByteArray := prog_14_method_44_code
def yX12_modes : MethodName := ⟨RX12, "modes", "(I)I"⟩
abbrev cX12_holds : ByteArray := prog_14_method_45_code
def yX12_holds : MethodName := ⟨RX12, "holds", "(I)I"⟩
abbrev cX12_stuckMany : ByteArray := prog_14_method_46_code
def yX12_stuckMany : MethodName := ⟨RX12, "stuckMany", "()I"⟩
abbrev cX12_stuck : ByteArray := prog_14_method_47_code
def yX12_stuck : MethodName := ⟨RX12, "stuck", "()I"⟩
abbrev cX12_by : ByteArray := prog_14_method_48_code
def yX12_by : MethodName := ⟨RX12, "by", "(I)I"⟩
abbrev cX12_layOld : ByteArray := prog_14_method_49_code
def yX12_layOld : MethodName := ⟨RX12, "layOld", "()V"⟩
abbrev cX12_like : ByteArray := prog_14_method_50_code
def yX12_like : MethodName := ⟨RX12, "like", "(I)I"⟩
abbrev cX12_moded : ByteArray := prog_14_method_51_code
def yX12_moded : MethodName := ⟨RX12, "moded", "(I)I"⟩
abbrev cX12_readers : ByteArray := prog_14_method_52_code
def yX12_readers : MethodName := ⟨RX12, "readers", "(I)I"⟩
abbrev cX12_readWithMemory : ByteArray := prog_14_method_53_code
def yX12_readWithMemory : MethodName := ⟨RX12, "readWithMemory", "()I"⟩
abbrev cX12_read : ByteArray := prog_14_method_54_code
def yX12_read : MethodName := ⟨RX12, "read", "()I"⟩
abbrev cX12_twice : ByteArray := prog_14_method_55_code
def yX12_twice : MethodName := ⟨RX12, "twice", "()I"⟩
abbrev cX12_isMode : ByteArray := prog_14_method_56_code
def yX12_isMode : MethodName := ⟨RX12, "isMode", "(I)Z"⟩
abbrev cX12_longest : ByteArray := prog_14_method_57_code
def yX12_longest : MethodName := ⟨RX12, "longest", "(II)I"⟩
abbrev cX12_standingBehind : ByteArray := prog_14_method_58_code
def yX12_standingBehind : MethodName := ⟨RX12, "standingBehind", "(III)I"⟩
abbrev cX12_doesMatch : ByteArray := prog_14_method_59_code
def yX12_doesMatch : MethodName := ⟨RX12, "doesMatch", "(III)Z"⟩
abbrev cX12_isStretch : ByteArray := prog_14_method_60_code
def yX12_isStretch : MethodName := ⟨RX12, "isStretch", "(II)Z"⟩
abbrev cX12_matches : ByteArray := prog_14_method_61_code
def yX12_matches : MethodName := ⟨RX12, "matches", "(II)I"⟩
abbrev cX12_stands : ByteArray := prog_14_method_62_code
def yX12_stands : MethodName := ⟨RX12, "stands", "(III)I"⟩
abbrev cX12_find : ByteArray := prog_14_method_63_code
def yX12_find : MethodName := ⟨RX12, "find", "(III)V"⟩
abbrev cX12_layFound : ByteArray := prog_14_method_64_code
def yX12_layFound : MethodName := ⟨RX12, "layFound", "(I)V"⟩
abbrev cX12_states : ByteArray := prog_14_method_65_code
def yX12_states : MethodName := ⟨RX12, "states", "(I)I"⟩
abbrev cX12_tellRow : ByteArray := prog_14_method_66_code
def yX12_tellRow : MethodName := ⟨RX12, "tellRow", "(I)I"⟩
abbrev cX12_isRule : ByteArray := prog_14_method_67_code
def yX12_isRule : MethodName := ⟨RX12, "isRule", "(I)Z"⟩
abbrev cX12_shortest : ByteArray := prog_14_method_68_code
def yX12_shortest : MethodName := ⟨RX12, "shortest", "(I)I"⟩
abbrev cX12_idle : ByteArray := prog_14_method_69_code
def yX12_idle : MethodName := ⟨RX12, "idle", "()I"⟩
abbrev cX12_overlap : ByteArray := prog_14_method_70_code
def yX12_overlap : MethodName := ⟨RX12, "overlap", "(II)I"⟩
abbrev cX12_ways : ByteArray := prog_14_method_71_code
def yX12_ways : MethodName := ⟨RX12, "ways", "(II)I"⟩
abbrev cX12_fewest : ByteArray := prog_14_method_72_code
def yX12_fewest : MethodName := ⟨RX12, "fewest", "(II)I"⟩
abbrev cX12_touched : ByteArray := prog_14_method_73_code
def yX12_touched : MethodName := ⟨RX12, "touched", "(I)I"⟩
abbrev cX12_same : ByteArray := prog_14_method_74_code
def yX12_same : MethodName := ⟨RX12, "same", "(IIIII)I"⟩
abbrev cX12_change : ByteArray := prog_14_method_75_code
def yX12_change : MethodName := ⟨RX12, "change", "()V"⟩
abbrev cX12_note : ByteArray := prog_14_method_76_code
def yX12_note : MethodName := ⟨RX12, "note", "()V"⟩
abbrev cX12_refusesBecome : ByteArray := prog_14_method_77_code
def yX12_refusesBecome : MethodName := ⟨RX12, "refusesBecome", "(II)I"⟩
abbrev cX12_refusesCome : ByteArray := prog_14_method_78_code
def yX12_refusesCome : MethodName := ⟨RX12, "refusesCome", "(II)I"⟩
abbrev cX12_refuses : ByteArray := prog_14_method_79_code
def yX12_refuses : MethodName := ⟨RX12, "refuses", "(III)I"⟩
abbrev cX12_doChange : ByteArray := prog_14_method_80_code
def yX12_doChange : MethodName := ⟨RX12, "doChange", "(III)V"⟩
abbrev cX12_oldAt : ByteArray := prog_14_method_81_code
def yX12_oldAt : MethodName := ⟨RX12, "oldAt", "(I)I"⟩
abbrev cX12_changed : ByteArray := prog_14_method_82_code
def yX12_changed : MethodName := ⟨RX12, "changed", "(III)I"⟩
abbrev cX12_becomes : ByteArray := prog_14_method_83_code
def yX12_becomes : MethodName := ⟨RX12, "becomes", "(II)I"⟩
abbrev cX12_comes : ByteArray := prog_14_method_84_code
def yX12_comes : MethodName := ⟨RX12, "comes", "(II)I"⟩
abbrev cX12_goes : ByteArray := prog_14_method_85_code
def yX12_goes : MethodName := ⟨RX12, "goes", "(I)I"⟩
abbrev cX12_mends : ByteArray := prog_14_method_86_code
def yX12_mends : MethodName := ⟨RX12, "mends", "(I)I"⟩
abbrev cX12_readAct : ByteArray := prog_14_method_87_code
def yX12_readAct : MethodName := ⟨RX12, "readAct", "(I)V"⟩
abbrev cX12_day : ByteArray := prog_14_method_88_code
def yX12_day : MethodName := ⟨RX12, "day", "()I"⟩
abbrev cX12_undo : ByteArray := prog_14_method_89_code
def yX12_undo : MethodName := ⟨RX12, "undo", "()I"⟩
abbrev cX12_draw : ByteArray := prog_14_method_90_code
def yX12_draw : MethodName := ⟨RX12, "draw", "(I)I"⟩
abbrev cX12_years : ByteArray := prog_14_method_91_code
def yX12_years : MethodName := ⟨RX12, "years", "(II)I"⟩
abbrev cX12_keep : ByteArray := prog_14_method_92_code
def yX12_keep : MethodName := ⟨RX12, "keep", "(I)Z"⟩
abbrev cX12_again : ByteArray := prog_14_method_93_code
def yX12_again : MethodName := ⟨RX12, "again", "(I)Z"⟩
abbrev cX12_allLetters : ByteArray := prog_14_method_94_code
def yX12_allLetters : MethodName := ⟨RX12, "allLetters", "()I"⟩
abbrev cX12_ruledModes : ByteArray := prog_14_method_95_code
def yX12_ruledModes : MethodName := ⟨RX12, "ruledModes", "()I"⟩
abbrev cX12_count : ByteArray := prog_14_method_96_code
def yX12_count : MethodName := ⟨RX12, "count", "(I)I"⟩
abbrev cX12_row : ByteArray := prog_14_method_97_code
def yX12_row : MethodName := ⟨RX12, "row", "(I)J"⟩
def RJx145de : String := "java/io/Serializable"
def RJ6 : String := "java/lang/Integer"
abbrev cJ6_bitCount_0f7a4 : ByteArray := prog_17_method_49_code
def yJ6_bitCount_0f7a4 : MethodName := ⟨RJ6, "bitCount", "(I)I"⟩
def RJ9 : String := "java/lang/Math"
abbrev cJ9_floorMod_7cf53 : ByteArray := prog_18_method_50_code
def yJ9_floorMod_7cf53 : MethodName := ⟨RJ9, "floorMod", "(II)I"⟩
abbrev cJ9_max_7cf53 : ByteArray := prog_18_method_65_code
def yJ9_max_7cf53 : MethodName := ⟨RJ9, "max", "(II)I"⟩
abbrev cJ9_min_7cf53 : ByteArray := prog_18_method_69_code
def yJ9_min_7cf53 : MethodName := ⟨RJ9, "min", "(II)I"⟩
def RJ10 : String := "java/lang/System"
def RJ7 : String := "java/util/Arrays"
abbrev cJ7_fill_53178 : ByteArray := prog_22_method_103_code
def yJ7_fill_53178 : MethodName := ⟨RJ7, "fill", "([II)V"⟩
def RL : String := "LongestTokensLaw"
abbrev cL_rule : ByteArray := method_3_code
def yL_rule : MethodName := ⟨RL, "rule", "(LLongestTokens;II[J)I"⟩
abbrev cL_at : ByteArray := method_4_code
def yL_at : MethodName := ⟨RL, "at", "(LLongestTokens;I[J)I"⟩
abbrev cL_token : ByteArray := method_5_code
def yL_token : MethodName := ⟨RL, "token", "(LLongestTokens;II[J)I"⟩
abbrev cL_row : ByteArray := method_6_code
def yL_row : MethodName := ⟨RL, "row", "(LLongestTokens;I[J)I"⟩
abbrev cL_law : ByteArray := code
def yL_law : MethodName := ⟨RL, "law", "([I)Z"⟩
/-- a row of the wide library, named in the first part: so the first round of a new machine goes wide at once -/
theorem gn_wide : True := by
  have _h := @Jvm.Free.Multi.fill_old
  exact trivial
