theorem dX12_oneOf_56 : decode cX12_oneOf 56 = .ok (.iload_n 1, 1) := by decide +kernel
theorem dX12_oneOf_57 : decode cX12_oneOf 57 = .ok (.isub, 1) := by decide +kernel
theorem dX12_oneOf_58 : decode cX12_oneOf 58 = .ok (.ireturn, 1) := by decide +kernel
theorem dX12_twoDigits_0 : decode cX12_twoDigits 0 = .ok (.aload_n 0, 1) := by decide +kernel
theorem dX12_twoDigits_1 : decode cX12_twoDigits 1 = .ok (.bipush 48, 2) := by decide +kernel
theorem dX12_twoDigits_3 : decode cX12_twoDigits 3 = .ok (.bipush 10, 2) := by decide +kernel
theorem dX12_twoDigits_5 : decode cX12_twoDigits 5 = .ok (.invokevirtual 162, 3) := by decide +kernel
theorem dX12_twoDigits_8 : decode cX12_twoDigits 8 = .ok (.istore_n 1, 1) := by decide +kernel
theorem dX12_twoDigits_9 : decode cX12_twoDigits 9 = .ok (.bipush 10, 2) := by decide +kernel
theorem dX12_twoDigits_11 : decode cX12_twoDigits 11 = .ok (.iload_n 1, 1) := by decide +kernel
theorem dX12_twoDigits_12 : decode cX12_twoDigits 12 = .ok (.imul, 1) := by decide +kernel
theorem dX12_twoDigits_13 : decode cX12_twoDigits 13 = .ok (.aload_n 0, 1) := by decide +kernel
theorem dX12_twoDigits_14 : decode cX12_twoDigits 14 = .ok (.bipush 48, 2) := by decide +kernel
theorem dX12_twoDigits_16 : decode cX12_twoDigits 16 = .ok (.bipush 10, 2) := by decide +kernel
theorem dX12_twoDigits_18 : decode cX12_twoDigits 18 = .ok (.invokevirtual 162, 3) := by decide +kernel
theorem dX12_twoDigits_21 : decode cX12_twoDigits 21 = .ok (.iadd, 1) := by decide +kernel
theorem dX12_twoDigits_22 : decode cX12_twoDigits 22 = .ok (.ireturn, 1) := by decide +kernel
theorem dX12_wasRight_0 : decode cX12_wasRight 0 = .ok (.aload_n 0, 1) := by decide +kernel
theorem dX12_wasRight_1 : decode cX12_wasRight 1 = .ok (.getfield 140, 3) := by decide +kernel
theorem dX12_wasRight_4 : decode cX12_wasRight 4 = .ok (.aload_n 0, 1) := by decide +kernel
theorem dX12_wasRight_5 : decode cX12_wasRight 5 = .ok (.getfield 137, 3) := by decide +kernel
theorem dX12_wasRight_8 : decode cX12_wasRight 8 = .ok (.if_icmp .ge 11, 3) := by decide +kernel
theorem dX12_wasRight_11 : decode cX12_wasRight 11 = .ok (.aload_n 0, 1) := by decide +kernel
theorem dX12_wasRight_12 : decode cX12_wasRight 12 = .ok (.aload_n 0, 1) := by decide +kernel
theorem dX12_wasRight_13 : decode cX12_wasRight 13 = .ok (.getfield 140, 3) := by decide +kernel
theorem dX12_wasRight_16 : decode cX12_wasRight 16 = .ok (.invokevirtual 158, 3) := by decide +kernel
theorem dX12_wasRight_19 : decode cX12_wasRight 19 = .ok (.aload_n 0, 1) := by decide +kernel
theorem dX12_wasRight_20 : decode cX12_wasRight 20 = .ok (.invokevirtual 146, 3) := by decide +kernel
theorem dX12_wasRight_23 : decode cX12_wasRight 23 = .ok (.ireturn, 1) := by decide +kernel
theorem dX12_follow_0 : decode cX12_follow 0 = .ok (.iconst 0, 1) := by decide +kernel
theorem dX12_follow_1 : decode cX12_follow 1 = .ok (.istore 4, 2) := by decide +kernel
theorem dX12_follow_3 : decode cX12_follow 3 = .ok (.iload 4, 2) := by decide +kernel
theorem dX12_follow_5 : decode cX12_follow 5 = .ok (.bipush 10, 2) := by decide +kernel
theorem dX12_follow_7 : decode cX12_follow 7 = .ok (.if_icmp .ge 35, 3) := by decide +kernel
theorem dX12_follow_10 : decode cX12_follow 10 = .ok (.iload_n 2, 1) := by decide +kernel
theorem dX12_follow_11 : decode cX12_follow 11 = .ok (.iload 4, 2) := by decide +kernel
theorem dX12_follow_13 : decode cX12_follow 13 = .ok (.ishr, 1) := by decide +kernel
theorem dX12_follow_14 : decode cX12_follow 14 = .ok (.iconst 1, 1) := by decide +kernel
theorem dX12_follow_15 : decode cX12_follow 15 = .ok (.iand, 1) := by decide +kernel
theorem dX12_follow_16 : decode cX12_follow 16 = .ok (.iconst 1, 1) := by decide +kernel
theorem dX12_follow_17 : decode cX12_follow 17 = .ok (.if_icmp .ne 19, 3) := by decide +kernel
theorem dX12_follow_20 : decode cX12_follow 20 = .ok (.aload_n 0, 1) := by decide +kernel
theorem dX12_follow_21 : decode cX12_follow 21 = .ok (.getfield 52, 3) := by decide +kernel
theorem dX12_follow_24 : decode cX12_follow 24 = .ok (.bipush 10, 2) := by decide +kernel
theorem dX12_follow_26 : decode cX12_follow 26 = .ok (.iload_n 1, 1) := by decide +kernel
theorem dX12_follow_27 : decode cX12_follow 27 = .ok (.imul, 1) := by decide +kernel
theorem dX12_follow_28 : decode cX12_follow 28 = .ok (.iload 4, 2) := by decide +kernel
theorem dX12_follow_30 : decode cX12_follow 30 = .ok (.iadd, 1) := by decide +kernel
theorem dX12_follow_31 : decode cX12_follow 31 = .ok (.dup2, 1) := by decide +kernel
theorem dX12_follow_32 : decode cX12_follow 32 = .ok (.iaload, 1) := by decide +kernel
theorem dX12_follow_33 : decode cX12_follow 33 = .ok (.iload_n 3, 1) := by decide +kernel
theorem dX12_follow_34 : decode cX12_follow 34 = .ok (.ior, 1) := by decide +kernel
theorem dX12_follow_35 : decode cX12_follow 35 = .ok (.iastore, 1) := by decide +kernel
theorem dX12_follow_36 : decode cX12_follow 36 = .ok (.iinc 4 1, 3) := by decide +kernel
theorem dX12_follow_39 : decode cX12_follow 39 = .ok (.goto (-36), 3) := by decide +kernel
theorem dX12_follow_42 : decode cX12_follow 42 = .ok (.return_, 1) := by decide +kernel
theorem dX12_readLetter_0 : decode cX12_readLetter 0 = .ok (.aload_n 0, 1) := by decide +kernel
theorem dX12_readLetter_1 : decode cX12_readLetter 1 = .ok (.getfield 24, 3) := by decide +kernel
theorem dX12_readLetter_4 : decode cX12_readLetter 4 = .ok (.iload_n 1, 1) := by decide +kernel
theorem dX12_readLetter_5 : decode cX12_readLetter 5 = .ok (.iaload, 1) := by decide +kernel
theorem dX12_readLetter_6 : decode cX12_readLetter 6 = .ok (.istore_n 2, 1) := by decide +kernel
theorem dX12_readLetter_7 : decode cX12_readLetter 7 = .ok (.aload_n 0, 1) := by decide +kernel
theorem dX12_readLetter_8 : decode cX12_readLetter 8 = .ok (.invokevirtual 150, 3) := by decide +kernel
theorem dX12_readLetter_11 : decode cX12_readLetter 11 = .ok (.bipush 46, 2) := by decide +kernel
theorem dX12_readLetter_13 : decode cX12_readLetter 13 = .ok (.if_icmp .ne 8, 3) := by decide +kernel
theorem dX12_readLetter_16 : decode cX12_readLetter 16 = .ok (.bipush 8, 2) := by decide +kernel
theorem dX12_readLetter_18 : decode cX12_readLetter 18 = .ok (.goto 10, 3) := by decide +kernel
theorem dX12_readLetter_21 : decode cX12_readLetter 21 = .ok (.aload_n 0, 1) := by decide +kernel
theorem dX12_readLetter_22 : decode cX12_readLetter 22 = .ok (.invokevirtual 150, 3) := by decide +kernel
theorem dX12_readLetter_25 : decode cX12_readLetter 25 = .ok (.bipush 97, 2) := by decide +kernel
theorem dX12_readLetter_27 : decode cX12_readLetter 27 = .ok (.isub, 1) := by decide +kernel
theorem dX12_readLetter_28 : decode cX12_readLetter 28 = .ok (.istore_n 3, 1) := by decide +kernel
theorem dX12_readLetter_29 : decode cX12_readLetter 29 = .ok (.aload_n 0, 1) := by decide +kernel
theorem dX12_readLetter_30 : decode cX12_readLetter 30 = .ok (.dup, 1) := by decide +kernel
theorem dX12_readLetter_31 : decode cX12_readLetter 31 = .ok (.getfield 140, 3) := by decide +kernel
theorem dX12_readLetter_34 : decode cX12_readLetter 34 = .ok (.iconst 1, 1) := by decide +kernel
theorem dX12_readLetter_35 : decode cX12_readLetter 35 = .ok (.iadd, 1) := by decide +kernel
theorem dX12_readLetter_36 : decode cX12_readLetter 36 = .ok (.putfield 140, 3) := by decide +kernel
theorem dX12_readLetter_39 : decode cX12_readLetter 39 = .ok (.aload_n 0, 1) := by decide +kernel
theorem dX12_readLetter_40 : decode cX12_readLetter 40 = .ok (.getfield 27, 3) := by decide +kernel
theorem dX12_readLetter_43 : decode cX12_readLetter 43 = .ok (.iload_n 1, 1) := by decide +kernel
theorem dX12_readLetter_44 : decode cX12_readLetter 44 = .ok (.dup2, 1) := by decide +kernel
theorem dX12_readLetter_45 : decode cX12_readLetter 45 = .ok (.iaload, 1) := by decide +kernel
theorem dX12_readLetter_46 : decode cX12_readLetter 46 = .ok (.iconst 1, 1) := by decide +kernel
theorem dX12_readLetter_47 : decode cX12_readLetter 47 = .ok (.iadd, 1) := by decide +kernel
theorem dX12_readLetter_48 : decode cX12_readLetter 48 = .ok (.iastore, 1) := by decide +kernel
theorem dX12_readLetter_49 : decode cX12_readLetter 49 = .ok (.aload_n 0, 1) := by decide +kernel
theorem dX12_readLetter_50 : decode cX12_readLetter 50 = .ok (.getfield 46, 3) := by decide +kernel
theorem dX12_readLetter_53 : decode cX12_readLetter 53 = .ok (.iload_n 2, 1) := by decide +kernel
theorem dX12_readLetter_54 : decode cX12_readLetter 54 = .ok (.iaload, 1) := by decide +kernel
theorem dX12_readLetter_55 : decode cX12_readLetter 55 = .ok (.istore 4, 2) := by decide +kernel
theorem dX12_readLetter_57 : decode cX12_readLetter 57 = .ok (.aload_n 0, 1) := by decide +kernel
theorem dX12_readLetter_58 : decode cX12_readLetter 58 = .ok (.getfield 46, 3) := by decide +kernel
theorem dX12_readLetter_61 : decode cX12_readLetter 61 = .ok (.iload_n 2, 1) := by decide +kernel
theorem dX12_readLetter_62 : decode cX12_readLetter 62 = .ok (.dup2, 1) := by decide +kernel
theorem dX12_readLetter_63 : decode cX12_readLetter 63 = .ok (.iaload, 1) := by decide +kernel
theorem dX12_readLetter_64 : decode cX12_readLetter 64 = .ok (.iconst 1, 1) := by decide +kernel
theorem dX12_readLetter_65 : decode cX12_readLetter 65 = .ok (.iadd, 1) := by decide +kernel
theorem dX12_readLetter_66 : decode cX12_readLetter 66 = .ok (.iastore, 1) := by decide +kernel
theorem dX12_readLetter_67 : decode cX12_readLetter 67 = .ok (.aload_n 0, 1) := by decide +kernel
theorem dX12_readLetter_68 : decode cX12_readLetter 68 = .ok (.iconst 0, 1) := by decide +kernel
theorem dX12_readLetter_69 : decode cX12_readLetter 69 = .ok (.putfield 166, 3) := by decide +kernel
theorem dX12_readLetter_72 : decode cX12_readLetter 72 = .ok (.aload_n 0, 1) := by decide +kernel
theorem dX12_readLetter_73 : decode cX12_readLetter 73 = .ok (.iload 4, 2) := by decide +kernel
theorem dX12_readLetter_75 : decode cX12_readLetter 75 = .ok (.bipush 10, 2) := by decide +kernel
theorem dX12_readLetter_77 : decode cX12_readLetter 77 = .ok (.if_icmp .ge 10, 3) := by decide +kernel
theorem dX12_readLetter_80 : decode cX12_readLetter 80 = .ok (.iconst 1, 1) := by decide +kernel
theorem dX12_readLetter_81 : decode cX12_readLetter 81 = .ok (.iload 4, 2) := by decide +kernel
theorem dX12_readLetter_83 : decode cX12_readLetter 83 = .ok (.ishl, 1) := by decide +kernel
theorem dX12_readLetter_84 : decode cX12_readLetter 84 = .ok (.goto 4, 3) := by decide +kernel
theorem dX12_readLetter_87 : decode cX12_readLetter 87 = .ok (.iconst 0, 1) := by decide +kernel
theorem dX12_readLetter_88 : decode cX12_readLetter 88 = .ok (.putfield 170, 3) := by decide +kernel
theorem dX12_readLetter_91 : decode cX12_readLetter 91 = .ok (.aload_n 0, 1) := by decide +kernel
theorem dX12_readLetter_92 : decode cX12_readLetter 92 = .ok (.aload_n 0, 1) := by decide +kernel
theorem dX12_readLetter_93 : decode cX12_readLetter 93 = .ok (.getfield 170, 3) := by decide +kernel
theorem dX12_readLetter_96 : decode cX12_readLetter 96 = .ok (.putfield 173, 3) := by decide +kernel
theorem dX12_readLetter_99 : decode cX12_readLetter 99 = .ok (.iload 4, 2) := by decide +kernel
theorem dX12_readLetter_101 : decode cX12_readLetter 101 = .ok (.bipush 10, 2) := by decide +kernel
theorem dX12_readLetter_103 : decode cX12_readLetter 103 = .ok (.if_icmp .lt 4, 3) := by decide +kernel
theorem dX12_readLetter_106 : decode cX12_readLetter 106 = .ok (.return_, 1) := by decide +kernel
theorem dX12_readLetter_107 : decode cX12_readLetter 107 = .ok (.aload_n 0, 1) := by decide +kernel
theorem dX12_readLetter_108 : decode cX12_readLetter 108 = .ok (.getfield 49, 3) := by decide +kernel
theorem dX12_readLetter_111 : decode cX12_readLetter 111 = .ok (.bipush 10, 2) := by decide +kernel
theorem dX12_readLetter_113 : decode cX12_readLetter 113 = .ok (.iload_n 2, 1) := by decide +kernel
theorem dX12_readLetter_114 : decode cX12_readLetter 114 = .ok (.imul, 1) := by decide +kernel
theorem dX12_readLetter_115 : decode cX12_readLetter 115 = .ok (.iload 4, 2) := by decide +kernel
theorem dX12_readLetter_117 : decode cX12_readLetter 117 = .ok (.iadd, 1) := by decide +kernel
theorem dX12_readLetter_118 : decode cX12_readLetter 118 = .ok (.iload_n 3, 1) := by decide +kernel
theorem dX12_readLetter_119 : decode cX12_readLetter 119 = .ok (.iastore, 1) := by decide +kernel
theorem dX12_readLetter_120 : decode cX12_readLetter 120 = .ok (.aload_n 0, 1) := by decide +kernel
theorem dX12_readLetter_121 : decode cX12_readLetter 121 = .ok (.getfield 52, 3) := by decide +kernel
theorem dX12_readLetter_124 : decode cX12_readLetter 124 = .ok (.bipush 10, 2) := by decide +kernel
theorem dX12_readLetter_126 : decode cX12_readLetter 126 = .ok (.iload_n 2, 1) := by decide +kernel
theorem dX12_readLetter_127 : decode cX12_readLetter 127 = .ok (.imul, 1) := by decide +kernel
theorem dX12_readLetter_128 : decode cX12_readLetter 128 = .ok (.iload 4, 2) := by decide +kernel
theorem dX12_readLetter_130 : decode cX12_readLetter 130 = .ok (.iadd, 1) := by decide +kernel
theorem dX12_readLetter_131 : decode cX12_readLetter 131 = .ok (.iconst 0, 1) := by decide +kernel
theorem dX12_readLetter_132 : decode cX12_readLetter 132 = .ok (.iastore, 1) := by decide +kernel
theorem dX12_readLetter_133 : decode cX12_readLetter 133 = .ok (.return_, 1) := by decide +kernel
theorem dX12_readPart_0 : decode cX12_readPart 0 = .ok (.aload_n 0, 1) := by decide +kernel
theorem dX12_readPart_1 : decode cX12_readPart 1 = .ok (.invokevirtual 150, 3) := by decide +kernel
theorem dX12_readPart_4 : decode cX12_readPart 4 = .ok (.bipush 97, 2) := by decide +kernel
theorem dX12_readPart_6 : decode cX12_readPart 6 = .ok (.bipush 104, 2) := by decide +kernel
theorem dX12_readPart_8 : decode cX12_readPart 8 = .ok (.invokestatic 133, 3) := by decide +kernel
theorem dX12_readPart_11 : decode cX12_readPart 11 = .ok (.ifCond .ne 12, 3) := by decide +kernel
theorem dX12_readPart_14 : decode cX12_readPart 14 = .ok (.aload_n 0, 1) := by decide +kernel
theorem dX12_readPart_15 : decode cX12_readPart 15 = .ok (.invokevirtual 150, 3) := by decide +kernel
theorem dX12_readPart_18 : decode cX12_readPart 18 = .ok (.bipush 46, 2) := by decide +kernel
theorem dX12_readPart_20 : decode cX12_readPart 20 = .ok (.if_icmp .ne 11, 3) := by decide +kernel
theorem dX12_readPart_23 : decode cX12_readPart 23 = .ok (.aload_n 0, 1) := by decide +kernel
theorem dX12_readPart_24 : decode cX12_readPart 24 = .ok (.iload_n 1, 1) := by decide +kernel
theorem dX12_readPart_25 : decode cX12_readPart 25 = .ok (.invokevirtual 176, 3) := by decide +kernel
theorem dX12_readPart_28 : decode cX12_readPart 28 = .ok (.goto 74, 3) := by decide +kernel
theorem dX12_readPart_31 : decode cX12_readPart 31 = .ok (.aload_n 0, 1) := by decide +kernel
theorem dX12_readPart_32 : decode cX12_readPart 32 = .ok (.invokevirtual 150, 3) := by decide +kernel
theorem dX12_readPart_35 : decode cX12_readPart 35 = .ok (.bipush 40, 2) := by decide +kernel
theorem dX12_readPart_37 : decode cX12_readPart 37 = .ok (.if_icmp .ne 20, 3) := by decide +kernel
theorem dX12_readPart_40 : decode cX12_readPart 40 = .ok (.aload_n 0, 1) := by decide +kernel
theorem dX12_readPart_41 : decode cX12_readPart 41 = .ok (.getfield 179, 3) := by decide +kernel
theorem dX12_readPart_44 : decode cX12_readPart 44 = .ok (.bipush 6, 2) := by decide +kernel
theorem dX12_readPart_46 : decode cX12_readPart 46 = .ok (.if_icmp .ne 11, 3) := by decide +kernel
theorem dX12_readPart_49 : decode cX12_readPart 49 = .ok (.aload_n 0, 1) := by decide +kernel
theorem dX12_readPart_50 : decode cX12_readPart 50 = .ok (.aload_n 0, 1) := by decide +kernel
theorem dX12_readPart_51 : decode cX12_readPart 51 = .ok (.getfield 140, 3) := by decide +kernel
theorem dX12_readPart_54 : decode cX12_readPart 54 = .ok (.invokevirtual 158, 3) := by decide +kernel
theorem dX12_readPart_57 : decode cX12_readPart 57 = .ok (.aload_n 0, 1) := by decide +kernel
theorem dX12_readPart_58 : decode cX12_readPart 58 = .ok (.bipush 40, 2) := by decide +kernel
theorem dX12_readPart_60 : decode cX12_readPart 60 = .ok (.invokevirtual 182, 3) := by decide +kernel
theorem dX12_readPart_63 : decode cX12_readPart 63 = .ok (.aload_n 0, 1) := by decide +kernel
theorem dX12_readPart_64 : decode cX12_readPart 64 = .ok (.invokevirtual 146, 3) := by decide +kernel
theorem dX12_readPart_67 : decode cX12_readPart 67 = .ok (.ifCond .ne 4, 3) := by decide +kernel
theorem dX12_readPart_70 : decode cX12_readPart 70 = .ok (.return_, 1) := by decide +kernel
theorem dX12_readPart_71 : decode cX12_readPart 71 = .ok (.aload_n 0, 1) := by decide +kernel
theorem dX12_readPart_72 : decode cX12_readPart 72 = .ok (.dup, 1) := by decide +kernel
theorem dX12_readPart_73 : decode cX12_readPart 73 = .ok (.getfield 179, 3) := by decide +kernel
theorem dX12_readPart_76 : decode cX12_readPart 76 = .ok (.iconst 1, 1) := by decide +kernel
theorem dX12_readPart_77 : decode cX12_readPart 77 = .ok (.iadd, 1) := by decide +kernel
theorem dX12_readPart_78 : decode cX12_readPart 78 = .ok (.putfield 179, 3) := by decide +kernel
theorem dX12_readPart_81 : decode cX12_readPart 81 = .ok (.aload_n 0, 1) := by decide +kernel
theorem dX12_readPart_82 : decode cX12_readPart 82 = .ok (.iload_n 1, 1) := by decide +kernel
theorem dX12_readPart_83 : decode cX12_readPart 83 = .ok (.invokevirtual 186, 3) := by decide +kernel
theorem dX12_readPart_86 : decode cX12_readPart 86 = .ok (.aload_n 0, 1) := by decide +kernel
theorem dX12_readPart_87 : decode cX12_readPart 87 = .ok (.bipush 41, 2) := by decide +kernel
theorem dX12_readPart_89 : decode cX12_readPart 89 = .ok (.invokevirtual 182, 3) := by decide +kernel
theorem dX12_readPart_92 : decode cX12_readPart 92 = .ok (.aload_n 0, 1) := by decide +kernel
theorem dX12_readPart_93 : decode cX12_readPart 93 = .ok (.dup, 1) := by decide +kernel
theorem dX12_readPart_94 : decode cX12_readPart 94 = .ok (.getfield 179, 3) := by decide +kernel
theorem dX12_readPart_97 : decode cX12_readPart 97 = .ok (.iconst 1, 1) := by decide +kernel
theorem dX12_readPart_98 : decode cX12_readPart 98 = .ok (.isub, 1) := by decide +kernel
theorem dX12_readPart_99 : decode cX12_readPart 99 = .ok (.putfield 179, 3) := by decide +kernel
theorem dX12_readPart_102 : decode cX12_readPart 102 = .ok (.aload_n 0, 1) := by decide +kernel
theorem dX12_readPart_103 : decode cX12_readPart 103 = .ok (.invokevirtual 146, 3) := by decide +kernel
theorem dX12_readPart_106 : decode cX12_readPart 106 = .ok (.ifCond .eq 84, 3) := by decide +kernel
theorem dX12_readPart_109 : decode cX12_readPart 109 = .ok (.aload_n 0, 1) := by decide +kernel
theorem dX12_readPart_110 : decode cX12_readPart 110 = .ok (.invokevirtual 150, 3) := by decide +kernel
theorem dX12_readPart_113 : decode cX12_readPart 113 = .ok (.bipush 42, 2) := by decide +kernel
theorem dX12_readPart_115 : decode cX12_readPart 115 = .ok (.if_icmp .eq 21, 3) := by decide +kernel
theorem dX12_readPart_118 : decode cX12_readPart 118 = .ok (.aload_n 0, 1) := by decide +kernel
theorem dX12_readPart_119 : decode cX12_readPart 119 = .ok (.invokevirtual 150, 3) := by decide +kernel
theorem dX12_readPart_122 : decode cX12_readPart 122 = .ok (.bipush 43, 2) := by decide +kernel
theorem dX12_readPart_124 : decode cX12_readPart 124 = .ok (.if_icmp .eq 12, 3) := by decide +kernel
theorem dX12_readPart_127 : decode cX12_readPart 127 = .ok (.aload_n 0, 1) := by decide +kernel
theorem dX12_readPart_128 : decode cX12_readPart 128 = .ok (.invokevirtual 150, 3) := by decide +kernel
theorem dX12_readPart_131 : decode cX12_readPart 131 = .ok (.bipush 63, 2) := by decide +kernel
theorem dX12_readPart_133 : decode cX12_readPart 133 = .ok (.if_icmp .ne 57, 3) := by decide +kernel
theorem dX12_readPart_136 : decode cX12_readPart 136 = .ok (.aload_n 0, 1) := by decide +kernel
theorem dX12_readPart_137 : decode cX12_readPart 137 = .ok (.invokevirtual 150, 3) := by decide +kernel
theorem dX12_readPart_140 : decode cX12_readPart 140 = .ok (.bipush 63, 2) := by decide +kernel
theorem dX12_readPart_142 : decode cX12_readPart 142 = .ok (.if_icmp .eq 21, 3) := by decide +kernel
theorem dX12_readPart_145 : decode cX12_readPart 145 = .ok (.aload_n 0, 1) := by decide +kernel
theorem dX12_readPart_146 : decode cX12_readPart 146 = .ok (.aload_n 0, 1) := by decide +kernel
theorem dX12_readPart_147 : decode cX12_readPart 147 = .ok (.getfield 24, 3) := by decide +kernel
theorem dX12_readPart_150 : decode cX12_readPart 150 = .ok (.iload_n 1, 1) := by decide +kernel
theorem dX12_readPart_151 : decode cX12_readPart 151 = .ok (.iaload, 1) := by decide +kernel
theorem dX12_readPart_152 : decode cX12_readPart 152 = .ok (.aload_n 0, 1) := by decide +kernel
theorem dX12_readPart_153 : decode cX12_readPart 153 = .ok (.getfield 173, 3) := by decide +kernel
theorem dX12_readPart_156 : decode cX12_readPart 156 = .ok (.aload_n 0, 1) := by decide +kernel
theorem dX12_readPart_157 : decode cX12_readPart 157 = .ok (.getfield 170, 3) := by decide +kernel
theorem dX12_readPart_160 : decode cX12_readPart 160 = .ok (.invokevirtual 189, 3) := by decide +kernel
theorem dX12_readPart_163 : decode cX12_readPart 163 = .ok (.aload_n 0, 1) := by decide +kernel
theorem dX12_readPart_164 : decode cX12_readPart 164 = .ok (.invokevirtual 150, 3) := by decide +kernel
theorem dX12_readPart_167 : decode cX12_readPart 167 = .ok (.bipush 43, 2) := by decide +kernel
theorem dX12_readPart_169 : decode cX12_readPart 169 = .ok (.if_icmp .eq 8, 3) := by decide +kernel
theorem dX12_readPart_172 : decode cX12_readPart 172 = .ok (.aload_n 0, 1) := by decide +kernel
theorem dX12_readPart_173 : decode cX12_readPart 173 = .ok (.iconst 1, 1) := by decide +kernel
theorem dX12_readPart_174 : decode cX12_readPart 174 = .ok (.putfield 166, 3) := by decide +kernel
theorem dX12_readPart_177 : decode cX12_readPart 177 = .ok (.aload_n 0, 1) := by decide +kernel
theorem dX12_readPart_178 : decode cX12_readPart 178 = .ok (.dup, 1) := by decide +kernel
theorem dX12_readPart_179 : decode cX12_readPart 179 = .ok (.getfield 140, 3) := by decide +kernel
theorem dX12_readPart_182 : decode cX12_readPart 182 = .ok (.iconst 1, 1) := by decide +kernel
theorem dX12_readPart_183 : decode cX12_readPart 183 = .ok (.iadd, 1) := by decide +kernel
theorem dX12_readPart_184 : decode cX12_readPart 184 = .ok (.putfield 140, 3) := by decide +kernel
theorem dX12_readPart_187 : decode cX12_readPart 187 = .ok (.goto (-85), 3) := by decide +kernel
theorem dX12_readPart_190 : decode cX12_readPart 190 = .ok (.return_, 1) := by decide +kernel
theorem dX12_isPart_0 : decode cX12_isPart 0 = .ok (.aload_n 0, 1) := by decide +kernel
theorem dX12_isPart_1 : decode cX12_isPart 1 = .ok (.invokevirtual 150, 3) := by decide +kernel
theorem dX12_isPart_4 : decode cX12_isPart 4 = .ok (.bipush 97, 2) := by decide +kernel
theorem dX12_isPart_6 : decode cX12_isPart 6 = .ok (.bipush 104, 2) := by decide +kernel
theorem dX12_isPart_8 : decode cX12_isPart 8 = .ok (.invokestatic 133, 3) := by decide +kernel
theorem dX12_isPart_11 : decode cX12_isPart 11 = .ok (.ifCond .ne 21, 3) := by decide +kernel
theorem dX12_isPart_14 : decode cX12_isPart 14 = .ok (.aload_n 0, 1) := by decide +kernel
theorem dX12_isPart_15 : decode cX12_isPart 15 = .ok (.invokevirtual 150, 3) := by decide +kernel
theorem dX12_isPart_18 : decode cX12_isPart 18 = .ok (.bipush 46, 2) := by decide +kernel
theorem dX12_isPart_20 : decode cX12_isPart 20 = .ok (.if_icmp .eq 12, 3) := by decide +kernel
theorem dX12_isPart_23 : decode cX12_isPart 23 = .ok (.aload_n 0, 1) := by decide +kernel
theorem dX12_isPart_24 : decode cX12_isPart 24 = .ok (.invokevirtual 150, 3) := by decide +kernel
theorem dX12_isPart_27 : decode cX12_isPart 27 = .ok (.bipush 40, 2) := by decide +kernel
theorem dX12_isPart_29 : decode cX12_isPart 29 = .ok (.if_icmp .ne 7, 3) := by decide +kernel
theorem dX12_isPart_32 : decode cX12_isPart 32 = .ok (.iconst 1, 1) := by decide +kernel
theorem dX12_isPart_33 : decode cX12_isPart 33 = .ok (.goto 4, 3) := by decide +kernel
theorem dX12_isPart_36 : decode cX12_isPart 36 = .ok (.iconst 0, 1) := by decide +kernel
theorem dX12_isPart_37 : decode cX12_isPart 37 = .ok (.ireturn, 1) := by decide +kernel
theorem dX12_readChain_0 : decode cX12_readChain 0 = .ok (.aload_n 0, 1) := by decide +kernel
theorem dX12_readChain_1 : decode cX12_readChain 1 = .ok (.iload_n 1, 1) := by decide +kernel
theorem dX12_readChain_2 : decode cX12_readChain 2 = .ok (.invokevirtual 193, 3) := by decide +kernel
theorem dX12_readChain_5 : decode cX12_readChain 5 = .ok (.aload_n 0, 1) := by decide +kernel
theorem dX12_readChain_6 : decode cX12_readChain 6 = .ok (.invokevirtual 146, 3) := by decide +kernel
theorem dX12_readChain_9 : decode cX12_readChain 9 = .ok (.ifCond .eq 113, 3) := by decide +kernel
theorem dX12_readChain_12 : decode cX12_readChain 12 = .ok (.aload_n 0, 1) := by decide +kernel
theorem dX12_readChain_13 : decode cX12_readChain 13 = .ok (.invokevirtual 196, 3) := by decide +kernel
theorem dX12_readChain_16 : decode cX12_readChain 16 = .ok (.ifCond .eq 106, 3) := by decide +kernel
theorem dX12_readChain_19 : decode cX12_readChain 19 = .ok (.aload_n 0, 1) := by decide +kernel
theorem dX12_readChain_20 : decode cX12_readChain 20 = .ok (.getfield 166, 3) := by decide +kernel
theorem dX12_readChain_23 : decode cX12_readChain 23 = .ok (.istore_n 2, 1) := by decide +kernel
theorem dX12_readChain_24 : decode cX12_readChain 24 = .ok (.aload_n 0, 1) := by decide +kernel
theorem dX12_readChain_25 : decode cX12_readChain 25 = .ok (.getfield 170, 3) := by decide +kernel
theorem dX12_readChain_28 : decode cX12_readChain 28 = .ok (.istore_n 3, 1) := by decide +kernel
theorem dX12_readChain_29 : decode cX12_readChain 29 = .ok (.aload_n 0, 1) := by decide +kernel
theorem dX12_readChain_30 : decode cX12_readChain 30 = .ok (.getfield 173, 3) := by decide +kernel
theorem dX12_readChain_33 : decode cX12_readChain 33 = .ok (.istore 4, 2) := by decide +kernel
theorem dX12_readChain_35 : decode cX12_readChain 35 = .ok (.aload_n 0, 1) := by decide +kernel
theorem dX12_readChain_36 : decode cX12_readChain 36 = .ok (.iload_n 1, 1) := by decide +kernel
theorem dX12_readChain_37 : decode cX12_readChain 37 = .ok (.invokevirtual 193, 3) := by decide +kernel
theorem dX12_readChain_40 : decode cX12_readChain 40 = .ok (.aload_n 0, 1) := by decide +kernel
theorem dX12_readChain_41 : decode cX12_readChain 41 = .ok (.aload_n 0, 1) := by decide +kernel
theorem dX12_readChain_42 : decode cX12_readChain 42 = .ok (.getfield 24, 3) := by decide +kernel
theorem dX12_readChain_45 : decode cX12_readChain 45 = .ok (.iload_n 1, 1) := by decide +kernel
theorem dX12_readChain_46 : decode cX12_readChain 46 = .ok (.iaload, 1) := by decide +kernel
theorem dX12_readChain_47 : decode cX12_readChain 47 = .ok (.iload 4, 2) := by decide +kernel
theorem dX12_readChain_49 : decode cX12_readChain 49 = .ok (.aload_n 0, 1) := by decide +kernel
theorem dX12_readChain_50 : decode cX12_readChain 50 = .ok (.getfield 170, 3) := by decide +kernel
theorem dX12_readChain_53 : decode cX12_readChain 53 = .ok (.invokevirtual 189, 3) := by decide +kernel
theorem dX12_readChain_56 : decode cX12_readChain 56 = .ok (.aload_n 0, 1) := by decide +kernel
theorem dX12_readChain_57 : decode cX12_readChain 57 = .ok (.iload_n 2, 1) := by decide +kernel
theorem dX12_readChain_58 : decode cX12_readChain 58 = .ok (.ifCond .eq 12, 3) := by decide +kernel
theorem dX12_readChain_61 : decode cX12_readChain 61 = .ok (.iload_n 3, 1) := by decide +kernel
theorem dX12_readChain_62 : decode cX12_readChain 62 = .ok (.aload_n 0, 1) := by decide +kernel
theorem dX12_readChain_63 : decode cX12_readChain 63 = .ok (.getfield 170, 3) := by decide +kernel
theorem dX12_readChain_66 : decode cX12_readChain 66 = .ok (.ior, 1) := by decide +kernel
theorem dX12_readChain_67 : decode cX12_readChain 67 = .ok (.goto 4, 3) := by decide +kernel
theorem dX12_readChain_70 : decode cX12_readChain 70 = .ok (.iload_n 3, 1) := by decide +kernel
theorem dX12_readChain_71 : decode cX12_readChain 71 = .ok (.putfield 170, 3) := by decide +kernel
theorem dX12_readChain_74 : decode cX12_readChain 74 = .ok (.aload_n 0, 1) := by decide +kernel
theorem dX12_readChain_75 : decode cX12_readChain 75 = .ok (.aload_n 0, 1) := by decide +kernel
theorem dX12_readChain_76 : decode cX12_readChain 76 = .ok (.getfield 166, 3) := by decide +kernel
theorem dX12_readChain_79 : decode cX12_readChain 79 = .ok (.ifCond .eq 13, 3) := by decide +kernel
theorem dX12_readChain_82 : decode cX12_readChain 82 = .ok (.iload 4, 2) := by decide +kernel
theorem dX12_readChain_84 : decode cX12_readChain 84 = .ok (.aload_n 0, 1) := by decide +kernel
theorem dX12_readChain_85 : decode cX12_readChain 85 = .ok (.getfield 173, 3) := by decide +kernel
theorem dX12_readChain_88 : decode cX12_readChain 88 = .ok (.ior, 1) := by decide +kernel
theorem dX12_readChain_89 : decode cX12_readChain 89 = .ok (.goto 7, 3) := by decide +kernel
theorem dX12_readChain_92 : decode cX12_readChain 92 = .ok (.aload_n 0, 1) := by decide +kernel
theorem dX12_readChain_93 : decode cX12_readChain 93 = .ok (.getfield 173, 3) := by decide +kernel
theorem dX12_readChain_96 : decode cX12_readChain 96 = .ok (.putfield 173, 3) := by decide +kernel
theorem dX12_readChain_99 : decode cX12_readChain 99 = .ok (.aload_n 0, 1) := by decide +kernel
theorem dX12_readChain_100 : decode cX12_readChain 100 = .ok (.iload_n 2, 1) := by decide +kernel
theorem dX12_readChain_101 : decode cX12_readChain 101 = .ok (.ifCond .eq 14, 3) := by decide +kernel
theorem dX12_readChain_104 : decode cX12_readChain 104 = .ok (.aload_n 0, 1) := by decide +kernel
theorem dX12_readChain_105 : decode cX12_readChain 105 = .ok (.getfield 166, 3) := by decide +kernel
theorem dX12_readChain_108 : decode cX12_readChain 108 = .ok (.ifCond .eq 7, 3) := by decide +kernel
theorem dX12_readChain_111 : decode cX12_readChain 111 = .ok (.iconst 1, 1) := by decide +kernel
theorem dX12_readChain_112 : decode cX12_readChain 112 = .ok (.goto 4, 3) := by decide +kernel
theorem dX12_readChain_115 : decode cX12_readChain 115 = .ok (.iconst 0, 1) := by decide +kernel
theorem dX12_readChain_116 : decode cX12_readChain 116 = .ok (.putfield 166, 3) := by decide +kernel
theorem dX12_readChain_119 : decode cX12_readChain 119 = .ok (.goto (-114), 3) := by decide +kernel
theorem dX12_readChain_122 : decode cX12_readChain 122 = .ok (.return_, 1) := by decide +kernel
theorem dX12_readWay_0 : decode cX12_readWay 0 = .ok (.aload_n 0, 1) := by decide +kernel
theorem dX12_readWay_1 : decode cX12_readWay 1 = .ok (.iload_n 1, 1) := by decide +kernel
theorem dX12_readWay_2 : decode cX12_readWay 2 = .ok (.invokevirtual 199, 3) := by decide +kernel
theorem dX12_readWay_5 : decode cX12_readWay 5 = .ok (.aload_n 0, 1) := by decide +kernel
theorem dX12_readWay_6 : decode cX12_readWay 6 = .ok (.bipush 124, 2) := by decide +kernel
theorem dX12_readWay_8 : decode cX12_readWay 8 = .ok (.invokevirtual 154, 3) := by decide +kernel
theorem dX12_readWay_11 : decode cX12_readWay 11 = .ok (.ifCond .eq 68, 3) := by decide +kernel
theorem dX12_readWay_14 : decode cX12_readWay 14 = .ok (.aload_n 0, 1) := by decide +kernel
theorem dX12_readWay_15 : decode cX12_readWay 15 = .ok (.getfield 166, 3) := by decide +kernel
theorem dX12_readWay_18 : decode cX12_readWay 18 = .ok (.istore_n 2, 1) := by decide +kernel
theorem dX12_readWay_19 : decode cX12_readWay 19 = .ok (.aload_n 0, 1) := by decide +kernel
theorem dX12_readWay_20 : decode cX12_readWay 20 = .ok (.getfield 170, 3) := by decide +kernel
theorem dX12_readWay_23 : decode cX12_readWay 23 = .ok (.istore_n 3, 1) := by decide +kernel
theorem dX12_readWay_24 : decode cX12_readWay 24 = .ok (.aload_n 0, 1) := by decide +kernel
theorem dX12_readWay_25 : decode cX12_readWay 25 = .ok (.getfield 173, 3) := by decide +kernel
theorem dX12_readWay_28 : decode cX12_readWay 28 = .ok (.istore 4, 2) := by decide +kernel
theorem dX12_readWay_30 : decode cX12_readWay 30 = .ok (.aload_n 0, 1) := by decide +kernel
theorem dX12_readWay_31 : decode cX12_readWay 31 = .ok (.iload_n 1, 1) := by decide +kernel
theorem dX12_readWay_32 : decode cX12_readWay 32 = .ok (.invokevirtual 199, 3) := by decide +kernel
theorem dX12_readWay_35 : decode cX12_readWay 35 = .ok (.aload_n 0, 1) := by decide +kernel
theorem dX12_readWay_36 : decode cX12_readWay 36 = .ok (.iload_n 2, 1) := by decide +kernel
theorem dX12_readWay_37 : decode cX12_readWay 37 = .ok (.ifCond .ne 10, 3) := by decide +kernel
theorem dX12_readWay_40 : decode cX12_readWay 40 = .ok (.aload_n 0, 1) := by decide +kernel
theorem dX12_readWay_41 : decode cX12_readWay 41 = .ok (.getfield 166, 3) := by decide +kernel
theorem dX12_readWay_44 : decode cX12_readWay 44 = .ok (.ifCond .eq 7, 3) := by decide +kernel
theorem dX12_readWay_47 : decode cX12_readWay 47 = .ok (.iconst 1, 1) := by decide +kernel
theorem dX12_readWay_48 : decode cX12_readWay 48 = .ok (.goto 4, 3) := by decide +kernel
theorem dX12_readWay_51 : decode cX12_readWay 51 = .ok (.iconst 0, 1) := by decide +kernel
theorem dX12_readWay_52 : decode cX12_readWay 52 = .ok (.putfield 166, 3) := by decide +kernel
theorem dX12_readWay_55 : decode cX12_readWay 55 = .ok (.aload_n 0, 1) := by decide +kernel
theorem dX12_readWay_56 : decode cX12_readWay 56 = .ok (.dup, 1) := by decide +kernel
theorem dX12_readWay_57 : decode cX12_readWay 57 = .ok (.getfield 170, 3) := by decide +kernel
theorem dX12_readWay_60 : decode cX12_readWay 60 = .ok (.iload_n 3, 1) := by decide +kernel
theorem dX12_readWay_61 : decode cX12_readWay 61 = .ok (.ior, 1) := by decide +kernel
theorem dX12_readWay_62 : decode cX12_readWay 62 = .ok (.putfield 170, 3) := by decide +kernel
theorem dX12_readWay_65 : decode cX12_readWay 65 = .ok (.aload_n 0, 1) := by decide +kernel
theorem dX12_readWay_66 : decode cX12_readWay 66 = .ok (.dup, 1) := by decide +kernel
theorem dX12_readWay_67 : decode cX12_readWay 67 = .ok (.getfield 173, 3) := by decide +kernel
theorem dX12_readWay_70 : decode cX12_readWay 70 = .ok (.iload 4, 2) := by decide +kernel
theorem dX12_readWay_72 : decode cX12_readWay 72 = .ok (.ior, 1) := by decide +kernel
theorem dX12_readWay_73 : decode cX12_readWay 73 = .ok (.putfield 173, 3) := by decide +kernel
theorem dX12_readWay_76 : decode cX12_readWay 76 = .ok (.goto (-71), 3) := by decide +kernel
theorem dX12_readWay_79 : decode cX12_readWay 79 = .ok (.return_, 1) := by decide +kernel
theorem dX12_readRule_0 : decode cX12_readRule 0 = .ok (.aload_n 0, 1) := by decide +kernel
theorem dX12_readRule_1 : decode cX12_readRule 1 = .ok (.getfield 24, 3) := by decide +kernel
theorem dX12_readRule_4 : decode cX12_readRule 4 = .ok (.iload_n 1, 1) := by decide +kernel
theorem dX12_readRule_5 : decode cX12_readRule 5 = .ok (.aload_n 0, 1) := by decide +kernel
theorem dX12_readRule_6 : decode cX12_readRule 6 = .ok (.bipush 48, 2) := by decide +kernel
theorem dX12_readRule_8 : decode cX12_readRule 8 = .ok (.iconst 4, 1) := by decide +kernel
theorem dX12_readRule_9 : decode cX12_readRule 9 = .ok (.invokevirtual 162, 3) := by decide +kernel
theorem dX12_readRule_12 : decode cX12_readRule 12 = .ok (.iastore, 1) := by decide +kernel
theorem dX12_readRule_13 : decode cX12_readRule 13 = .ok (.aload_n 0, 1) := by decide +kernel
theorem dX12_readRule_14 : decode cX12_readRule 14 = .ok (.bipush 58, 2) := by decide +kernel
theorem dX12_readRule_16 : decode cX12_readRule 16 = .ok (.invokevirtual 182, 3) := by decide +kernel
theorem dX12_readRule_19 : decode cX12_readRule 19 = .ok (.aload_n 0, 1) := by decide +kernel
theorem dX12_readRule_20 : decode cX12_readRule 20 = .ok (.invokevirtual 146, 3) := by decide +kernel
theorem dX12_readRule_23 : decode cX12_readRule 23 = .ok (.ifCond .ne 4, 3) := by decide +kernel
theorem dX12_readRule_26 : decode cX12_readRule 26 = .ok (.return_, 1) := by decide +kernel
theorem dX12_readRule_27 : decode cX12_readRule 27 = .ok (.aload_n 0, 1) := by decide +kernel
theorem dX12_readRule_28 : decode cX12_readRule 28 = .ok (.getfield 27, 3) := by decide +kernel
theorem dX12_readRule_31 : decode cX12_readRule 31 = .ok (.iload_n 1, 1) := by decide +kernel
theorem dX12_readRule_32 : decode cX12_readRule 32 = .ok (.iconst 0, 1) := by decide +kernel
theorem dX12_readRule_33 : decode cX12_readRule 33 = .ok (.iastore, 1) := by decide +kernel
theorem dX12_readRule_34 : decode cX12_readRule 34 = .ok (.aload_n 0, 1) := by decide +kernel
theorem dX12_readRule_35 : decode cX12_readRule 35 = .ok (.iconst 0, 1) := by decide +kernel
theorem dX12_readRule_36 : decode cX12_readRule 36 = .ok (.putfield 179, 3) := by decide +kernel
theorem dX12_readRule_39 : decode cX12_readRule 39 = .ok (.aload_n 0, 1) := by decide +kernel
theorem dX12_readRule_40 : decode cX12_readRule 40 = .ok (.iload_n 1, 1) := by decide +kernel
theorem dX12_readRule_41 : decode cX12_readRule 41 = .ok (.invokevirtual 186, 3) := by decide +kernel
theorem dX12_readRule_44 : decode cX12_readRule 44 = .ok (.aload_n 0, 1) := by decide +kernel
theorem dX12_readRule_45 : decode cX12_readRule 45 = .ok (.invokevirtual 146, 3) := by decide +kernel
theorem dX12_readRule_48 : decode cX12_readRule 48 = .ok (.ifCond .ne 4, 3) := by decide +kernel
theorem dX12_readRule_51 : decode cX12_readRule 51 = .ok (.return_, 1) := by decide +kernel
theorem dX12_readRule_52 : decode cX12_readRule 52 = .ok (.aload_n 0, 1) := by decide +kernel
theorem dX12_readRule_53 : decode cX12_readRule 53 = .ok (.getfield 36, 3) := by decide +kernel
theorem dX12_readRule_56 : decode cX12_readRule 56 = .ok (.iload_n 1, 1) := by decide +kernel
theorem dX12_readRule_57 : decode cX12_readRule 57 = .ok (.aload_n 0, 1) := by decide +kernel
theorem dX12_readRule_58 : decode cX12_readRule 58 = .ok (.getfield 166, 3) := by decide +kernel
theorem dX12_readRule_61 : decode cX12_readRule 61 = .ok (.bastore, 1) := by decide +kernel
theorem dX12_readRule_62 : decode cX12_readRule 62 = .ok (.aload_n 0, 1) := by decide +kernel
theorem dX12_readRule_63 : decode cX12_readRule 63 = .ok (.getfield 40, 3) := by decide +kernel
theorem dX12_readRule_66 : decode cX12_readRule 66 = .ok (.iload_n 1, 1) := by decide +kernel
theorem dX12_readRule_67 : decode cX12_readRule 67 = .ok (.aload_n 0, 1) := by decide +kernel
theorem dX12_readRule_68 : decode cX12_readRule 68 = .ok (.getfield 170, 3) := by decide +kernel
theorem dX12_readRule_71 : decode cX12_readRule 71 = .ok (.iastore, 1) := by decide +kernel
theorem dX12_readRule_72 : decode cX12_readRule 72 = .ok (.aload_n 0, 1) := by decide +kernel
theorem dX12_readRule_73 : decode cX12_readRule 73 = .ok (.getfield 43, 3) := by decide +kernel
theorem dX12_readRule_76 : decode cX12_readRule 76 = .ok (.iload_n 1, 1) := by decide +kernel
theorem dX12_readRule_77 : decode cX12_readRule 77 = .ok (.aload_n 0, 1) := by decide +kernel
theorem dX12_readRule_78 : decode cX12_readRule 78 = .ok (.getfield 173, 3) := by decide +kernel
theorem dX12_readRule_81 : decode cX12_readRule 81 = .ok (.iastore, 1) := by decide +kernel
theorem dX12_readRule_82 : decode cX12_readRule 82 = .ok (.aload_n 0, 1) := by decide +kernel
theorem dX12_readRule_83 : decode cX12_readRule 83 = .ok (.getfield 30, 3) := by decide +kernel
theorem dX12_readRule_86 : decode cX12_readRule 86 = .ok (.iload_n 1, 1) := by decide +kernel
theorem dX12_readRule_87 : decode cX12_readRule 87 = .ok (.aload_n 0, 1) := by decide +kernel
theorem dX12_readRule_88 : decode cX12_readRule 88 = .ok (.bipush 60, 2) := by decide +kernel
theorem dX12_readRule_90 : decode cX12_readRule 90 = .ok (.invokevirtual 154, 3) := by decide +kernel
theorem dX12_readRule_93 : decode cX12_readRule 93 = .ok (.ifCond .eq 7, 3) := by decide +kernel
theorem dX12_readRule_96 : decode cX12_readRule 96 = .ok (.iconst 1, 1) := by decide +kernel
theorem dX12_readRule_97 : decode cX12_readRule 97 = .ok (.goto 30, 3) := by decide +kernel
theorem dX12_readRule_100 : decode cX12_readRule 100 = .ok (.aload_n 0, 1) := by decide +kernel
theorem dX12_readRule_101 : decode cX12_readRule 101 = .ok (.bipush 62, 2) := by decide +kernel
theorem dX12_readRule_103 : decode cX12_readRule 103 = .ok (.invokevirtual 154, 3) := by decide +kernel
theorem dX12_readRule_106 : decode cX12_readRule 106 = .ok (.ifCond .eq 7, 3) := by decide +kernel
theorem dX12_readRule_109 : decode cX12_readRule 109 = .ok (.iconst 2, 1) := by decide +kernel
theorem dX12_readRule_110 : decode cX12_readRule 110 = .ok (.goto 17, 3) := by decide +kernel
theorem dX12_readRule_113 : decode cX12_readRule 113 = .ok (.aload_n 0, 1) := by decide +kernel
theorem dX12_readRule_114 : decode cX12_readRule 114 = .ok (.bipush 61, 2) := by decide +kernel
theorem dX12_readRule_116 : decode cX12_readRule 116 = .ok (.invokevirtual 154, 3) := by decide +kernel
theorem dX12_readRule_119 : decode cX12_readRule 119 = .ok (.ifCond .eq 7, 3) := by decide +kernel
theorem dX12_readRule_122 : decode cX12_readRule 122 = .ok (.iconst 3, 1) := by decide +kernel
theorem dX12_readRule_123 : decode cX12_readRule 123 = .ok (.goto 4, 3) := by decide +kernel
theorem dX12_readRule_126 : decode cX12_readRule 126 = .ok (.iconst 0, 1) := by decide +kernel
theorem dX12_readRule_127 : decode cX12_readRule 127 = .ok (.iastore, 1) := by decide +kernel
theorem dX12_readRule_128 : decode cX12_readRule 128 = .ok (.aload_n 0, 1) := by decide +kernel
theorem dX12_readRule_129 : decode cX12_readRule 129 = .ok (.getfield 33, 3) := by decide +kernel
theorem dX12_readRule_132 : decode cX12_readRule 132 = .ok (.iload_n 1, 1) := by decide +kernel
theorem dX12_readRule_133 : decode cX12_readRule 133 = .ok (.aload_n 0, 1) := by decide +kernel
theorem dX12_readRule_134 : decode cX12_readRule 134 = .ok (.getfield 30, 3) := by decide +kernel
theorem dX12_readRule_137 : decode cX12_readRule 137 = .ok (.iload_n 1, 1) := by decide +kernel
theorem dX12_readRule_138 : decode cX12_readRule 138 = .ok (.iaload, 1) := by decide +kernel
theorem dX12_readRule_139 : decode cX12_readRule 139 = .ok (.iconst 1, 1) := by decide +kernel
theorem dX12_readRule_140 : decode cX12_readRule 140 = .ok (.if_icmp .le 13, 3) := by decide +kernel
theorem dX12_readRule_143 : decode cX12_readRule 143 = .ok (.aload_n 0, 1) := by decide +kernel
theorem dX12_readRule_144 : decode cX12_readRule 144 = .ok (.bipush 48, 2) := by decide +kernel
theorem dX12_readRule_146 : decode cX12_readRule 146 = .ok (.iconst 4, 1) := by decide +kernel
theorem dX12_readRule_147 : decode cX12_readRule 147 = .ok (.invokevirtual 162, 3) := by decide +kernel
theorem dX12_readRule_150 : decode cX12_readRule 150 = .ok (.goto 4, 3) := by decide +kernel
theorem dX12_readRule_153 : decode cX12_readRule 153 = .ok (.iconst (-1), 1) := by decide +kernel
theorem dX12_readRule_154 : decode cX12_readRule 154 = .ok (.iastore, 1) := by decide +kernel
theorem dX12_readRule_155 : decode cX12_readRule 155 = .ok (.return_, 1) := by decide +kernel
theorem dX12_readRules_0 : decode cX12_readRules 0 = .ok (.aload_n 0, 1) := by decide +kernel
theorem dX12_readRules_1 : decode cX12_readRules 1 = .ok (.iconst 0, 1) := by decide +kernel
theorem dX12_readRules_2 : decode cX12_readRules 2 = .ok (.putfield 202, 3) := by decide +kernel
theorem dX12_readRules_5 : decode cX12_readRules 5 = .ok (.iconst 0, 1) := by decide +kernel
theorem dX12_readRules_6 : decode cX12_readRules 6 = .ok (.istore_n 1, 1) := by decide +kernel
theorem dX12_readRules_7 : decode cX12_readRules 7 = .ok (.iload_n 1, 1) := by decide +kernel
theorem dX12_readRules_8 : decode cX12_readRules 8 = .ok (.iconst 4, 1) := by decide +kernel
theorem dX12_readRules_9 : decode cX12_readRules 9 = .ok (.if_icmp .ge 16, 3) := by decide +kernel
theorem dX12_readRules_12 : decode cX12_readRules 12 = .ok (.aload_n 0, 1) := by decide +kernel
theorem dX12_readRules_13 : decode cX12_readRules 13 = .ok (.getfield 46, 3) := by decide +kernel
theorem dX12_readRules_16 : decode cX12_readRules 16 = .ok (.iload_n 1, 1) := by decide +kernel
theorem dX12_readRules_17 : decode cX12_readRules 17 = .ok (.iconst 0, 1) := by decide +kernel
theorem dX12_readRules_18 : decode cX12_readRules 18 = .ok (.iastore, 1) := by decide +kernel
theorem dX12_readRules_19 : decode cX12_readRules 19 = .ok (.iinc 1 1, 3) := by decide +kernel
theorem dX12_readRules_22 : decode cX12_readRules 22 = .ok (.goto (-15), 3) := by decide +kernel
theorem dX12_readRules_25 : decode cX12_readRules 25 = .ok (.aload_n 0, 1) := by decide +kernel
theorem dX12_readRules_26 : decode cX12_readRules 26 = .ok (.getfield 137, 3) := by decide +kernel
theorem dX12_readRules_29 : decode cX12_readRules 29 = .ok (.ifCond .le 7, 3) := by decide +kernel
theorem dX12_readRules_32 : decode cX12_readRules 32 = .ok (.iconst 1, 1) := by decide +kernel
theorem dX12_readRules_33 : decode cX12_readRules 33 = .ok (.goto 4, 3) := by decide +kernel
theorem dX12_readRules_36 : decode cX12_readRules 36 = .ok (.iconst 0, 1) := by decide +kernel
theorem dX12_readRules_37 : decode cX12_readRules 37 = .ok (.istore_n 1, 1) := by decide +kernel
theorem dX12_readRules_38 : decode cX12_readRules 38 = .ok (.iload_n 1, 1) := by decide +kernel
theorem dX12_readRules_39 : decode cX12_readRules 39 = .ok (.ifCond .eq 87, 3) := by decide +kernel
theorem dX12_readRules_42 : decode cX12_readRules 42 = .ok (.aload_n 0, 1) := by decide +kernel
theorem dX12_readRules_43 : decode cX12_readRules 43 = .ok (.invokevirtual 146, 3) := by decide +kernel
theorem dX12_readRules_46 : decode cX12_readRules 46 = .ok (.ifCond .eq 80, 3) := by decide +kernel
theorem dX12_readRules_49 : decode cX12_readRules 49 = .ok (.aload_n 0, 1) := by decide +kernel
theorem dX12_readRules_50 : decode cX12_readRules 50 = .ok (.aload_n 0, 1) := by decide +kernel
theorem dX12_readRules_51 : decode cX12_readRules 51 = .ok (.getfield 202, 3) := by decide +kernel
theorem dX12_readRules_54 : decode cX12_readRules 54 = .ok (.invokevirtual 205, 3) := by decide +kernel
theorem dX12_readRules_57 : decode cX12_readRules 57 = .ok (.aload_n 0, 1) := by decide +kernel
theorem dX12_readRules_58 : decode cX12_readRules 58 = .ok (.dup, 1) := by decide +kernel
theorem dX12_readRules_59 : decode cX12_readRules 59 = .ok (.getfield 202, 3) := by decide +kernel
theorem dX12_readRules_62 : decode cX12_readRules 62 = .ok (.iconst 1, 1) := by decide +kernel
theorem dX12_readRules_63 : decode cX12_readRules 63 = .ok (.iadd, 1) := by decide +kernel
theorem dX12_readRules_64 : decode cX12_readRules 64 = .ok (.putfield 202, 3) := by decide +kernel
theorem dX12_readRules_67 : decode cX12_readRules 67 = .ok (.aload_n 0, 1) := by decide +kernel
theorem dX12_readRules_68 : decode cX12_readRules 68 = .ok (.invokevirtual 146, 3) := by decide +kernel
theorem dX12_readRules_71 : decode cX12_readRules 71 = .ok (.ifCond .eq 16, 3) := by decide +kernel
theorem dX12_readRules_74 : decode cX12_readRules 74 = .ok (.aload_n 0, 1) := by decide +kernel
theorem dX12_readRules_75 : decode cX12_readRules 75 = .ok (.invokevirtual 150, 3) := by decide +kernel
theorem dX12_readRules_78 : decode cX12_readRules 78 = .ok (.bipush 59, 2) := by decide +kernel
theorem dX12_readRules_80 : decode cX12_readRules 80 = .ok (.if_icmp .ne 7, 3) := by decide +kernel
theorem dX12_readRules_83 : decode cX12_readRules 83 = .ok (.iconst 1, 1) := by decide +kernel
theorem dX12_readRules_84 : decode cX12_readRules 84 = .ok (.goto 4, 3) := by decide +kernel
theorem dX12_readRules_87 : decode cX12_readRules 87 = .ok (.iconst 0, 1) := by decide +kernel
theorem dX12_readRules_88 : decode cX12_readRules 88 = .ok (.istore_n 1, 1) := by decide +kernel
theorem dX12_readRules_89 : decode cX12_readRules 89 = .ok (.iload_n 1, 1) := by decide +kernel
theorem dX12_readRules_90 : decode cX12_readRules 90 = .ok (.ifCond .ne 6, 3) := by decide +kernel
theorem dX12_readRules_93 : decode cX12_readRules 93 = .ok (.goto (-55), 3) := by decide +kernel
theorem dX12_readRules_96 : decode cX12_readRules 96 = .ok (.aload_n 0, 1) := by decide +kernel
theorem dX12_readRules_97 : decode cX12_readRules 97 = .ok (.getfield 202, 3) := by decide +kernel
theorem dX12_readRules_100 : decode cX12_readRules 100 = .ok (.bipush 8, 2) := by decide +kernel
theorem dX12_readRules_102 : decode cX12_readRules 102 = .ok (.if_icmp .ne 11, 3) := by decide +kernel
theorem dX12_readRules_105 : decode cX12_readRules 105 = .ok (.aload_n 0, 1) := by decide +kernel
theorem dX12_readRules_106 : decode cX12_readRules 106 = .ok (.aload_n 0, 1) := by decide +kernel
theorem dX12_readRules_107 : decode cX12_readRules 107 = .ok (.getfield 140, 3) := by decide +kernel
theorem dX12_readRules_110 : decode cX12_readRules 110 = .ok (.invokevirtual 158, 3) := by decide +kernel
theorem dX12_readRules_113 : decode cX12_readRules 113 = .ok (.aload_n 0, 1) := by decide +kernel
theorem dX12_readRules_114 : decode cX12_readRules 114 = .ok (.dup, 1) := by decide +kernel
theorem dX12_readRules_115 : decode cX12_readRules 115 = .ok (.getfield 140, 3) := by decide +kernel
theorem dX12_readRules_118 : decode cX12_readRules 118 = .ok (.iconst 1, 1) := by decide +kernel
theorem dX12_readRules_119 : decode cX12_readRules 119 = .ok (.iadd, 1) := by decide +kernel
theorem dX12_readRules_120 : decode cX12_readRules 120 = .ok (.putfield 140, 3) := by decide +kernel
theorem dX12_readRules_123 : decode cX12_readRules 123 = .ok (.goto (-85), 3) := by decide +kernel
theorem dX12_readRules_126 : decode cX12_readRules 126 = .ok (.aload_n 0, 1) := by decide +kernel
theorem dX12_readRules_127 : decode cX12_readRules 127 = .ok (.invokevirtual 208, 3) := by decide +kernel
theorem dX12_readRules_130 : decode cX12_readRules 130 = .ok (.ireturn, 1) := by decide +kernel
theorem dX12_layRules_0 : decode cX12_layRules 0 = .ok (.aload_n 0, 1) := by decide +kernel
theorem dX12_layRules_1 : decode cX12_layRules 1 = .ok (.aload_n 1, 1) := by decide +kernel
theorem dX12_layRules_2 : decode cX12_layRules 2 = .ok (.iconst 0, 1) := by decide +kernel
theorem dX12_layRules_3 : decode cX12_layRules 3 = .ok (.iaload, 1) := by decide +kernel
theorem dX12_layRules_4 : decode cX12_layRules 4 = .ok (.putfield 137, 3) := by decide +kernel
theorem dX12_layRules_7 : decode cX12_layRules 7 = .ok (.iconst 0, 1) := by decide +kernel
theorem dX12_layRules_8 : decode cX12_layRules 8 = .ok (.istore_n 2, 1) := by decide +kernel
theorem dX12_layRules_9 : decode cX12_layRules 9 = .ok (.iload_n 2, 1) := by decide +kernel
theorem dX12_layRules_10 : decode cX12_layRules 10 = .ok (.aload_n 0, 1) := by decide +kernel
theorem dX12_layRules_11 : decode cX12_layRules 11 = .ok (.getfield 137, 3) := by decide +kernel
theorem dX12_layRules_14 : decode cX12_layRules 14 = .ok (.if_icmp .ge 20, 3) := by decide +kernel
theorem dX12_layRules_17 : decode cX12_layRules 17 = .ok (.aload_n 0, 1) := by decide +kernel
theorem dX12_layRules_18 : decode cX12_layRules 18 = .ok (.getfield 21, 3) := by decide +kernel
theorem dX12_layRules_21 : decode cX12_layRules 21 = .ok (.iload_n 2, 1) := by decide +kernel
theorem dX12_layRules_22 : decode cX12_layRules 22 = .ok (.aload_n 1, 1) := by decide +kernel
theorem dX12_layRules_23 : decode cX12_layRules 23 = .ok (.iconst 1, 1) := by decide +kernel
theorem dX12_layRules_24 : decode cX12_layRules 24 = .ok (.iload_n 2, 1) := by decide +kernel
theorem dX12_layRules_25 : decode cX12_layRules 25 = .ok (.iadd, 1) := by decide +kernel
theorem dX12_layRules_26 : decode cX12_layRules 26 = .ok (.iaload, 1) := by decide +kernel
theorem dX12_layRules_27 : decode cX12_layRules 27 = .ok (.iastore, 1) := by decide +kernel
theorem dX12_layRules_28 : decode cX12_layRules 28 = .ok (.iinc 2 1, 3) := by decide +kernel
theorem dX12_layRules_31 : decode cX12_layRules 31 = .ok (.goto (-22), 3) := by decide +kernel
theorem dX12_layRules_34 : decode cX12_layRules 34 = .ok (.aload_n 0, 1) := by decide +kernel
theorem dX12_layRules_35 : decode cX12_layRules 35 = .ok (.iconst 0, 1) := by decide +kernel
theorem dX12_layRules_36 : decode cX12_layRules 36 = .ok (.putfield 140, 3) := by decide +kernel
theorem dX12_layRules_39 : decode cX12_layRules 39 = .ok (.aload_n 0, 1) := by decide +kernel
theorem dX12_layRules_40 : decode cX12_layRules 40 = .ok (.iconst (-1), 1) := by decide +kernel
theorem dX12_layRules_41 : decode cX12_layRules 41 = .ok (.putfield 143, 3) := by decide +kernel
theorem dX12_layRules_44 : decode cX12_layRules 44 = .ok (.aload_n 0, 1) := by decide +kernel
theorem dX12_layRules_45 : decode cX12_layRules 45 = .ok (.invokevirtual 211, 3) := by decide +kernel
theorem dX12_layRules_48 : decode cX12_layRules 48 = .ok (.istore_n 2, 1) := by decide +kernel
theorem dX12_layRules_49 : decode cX12_layRules 49 = .ok (.iload_n 2, 1) := by decide +kernel
theorem dX12_layRules_50 : decode cX12_layRules 50 = .ok (.ifCond .ne 8, 3) := by decide +kernel
theorem dX12_layRules_53 : decode cX12_layRules 53 = .ok (.aload_n 0, 1) := by decide +kernel
theorem dX12_layRules_54 : decode cX12_layRules 54 = .ok (.iconst 0, 1) := by decide +kernel
theorem dX12_layRules_55 : decode cX12_layRules 55 = .ok (.putfield 202, 3) := by decide +kernel
theorem dX12_layRules_58 : decode cX12_layRules 58 = .ok (.return_, 1) := by decide +kernel
theorem dX12_crowded_0 : decode cX12_crowded 0 = .ok (.iconst 0, 1) := by decide +kernel
theorem dX12_crowded_1 : decode cX12_crowded 1 = .ok (.istore_n 1, 1) := by decide +kernel
theorem dX12_crowded_2 : decode cX12_crowded 2 = .ok (.iload_n 1, 1) := by decide +kernel
theorem dX12_crowded_3 : decode cX12_crowded 3 = .ok (.iconst 4, 1) := by decide +kernel
theorem dX12_crowded_4 : decode cX12_crowded 4 = .ok (.if_icmp .ge 22, 3) := by decide +kernel
theorem dX12_crowded_7 : decode cX12_crowded 7 = .ok (.aload_n 0, 1) := by decide +kernel
theorem dX12_crowded_8 : decode cX12_crowded 8 = .ok (.getfield 46, 3) := by decide +kernel
theorem dX12_crowded_11 : decode cX12_crowded 11 = .ok (.iload_n 1, 1) := by decide +kernel
theorem dX12_crowded_12 : decode cX12_crowded 12 = .ok (.iaload, 1) := by decide +kernel
theorem dX12_crowded_13 : decode cX12_crowded 13 = .ok (.bipush 10, 2) := by decide +kernel
theorem dX12_crowded_15 : decode cX12_crowded 15 = .ok (.if_icmp .le 5, 3) := by decide +kernel
theorem dX12_crowded_18 : decode cX12_crowded 18 = .ok (.iload_n 1, 1) := by decide +kernel
theorem dX12_crowded_19 : decode cX12_crowded 19 = .ok (.ireturn, 1) := by decide +kernel
theorem dX12_crowded_20 : decode cX12_crowded 20 = .ok (.iinc 1 1, 3) := by decide +kernel
theorem dX12_crowded_23 : decode cX12_crowded 23 = .ok (.goto (-21), 3) := by decide +kernel
theorem dX12_crowded_26 : decode cX12_crowded 26 = .ok (.iconst (-1), 1) := by decide +kernel
theorem dX12_crowded_27 : decode cX12_crowded 27 = .ok (.ireturn, 1) := by decide +kernel
theorem dX12_rules_0 : decode cX12_rules 0 = .ok (.aload_n 0, 1) := by decide +kernel
theorem dX12_rules_1 : decode cX12_rules 1 = .ok (.iconst 0, 1) := by decide +kernel
theorem dX12_rules_2 : decode cX12_rules 2 = .ok (.putfield 123, 3) := by decide +kernel
theorem dX12_rules_5 : decode cX12_rules 5 = .ok (.aload_n 0, 1) := by decide +kernel
theorem dX12_rules_6 : decode cX12_rules 6 = .ok (.invokevirtual 214, 3) := by decide +kernel
theorem dX12_rules_9 : decode cX12_rules 9 = .ok (.aload_n 0, 1) := by decide +kernel
theorem dX12_rules_10 : decode cX12_rules 10 = .ok (.invokevirtual 211, 3) := by decide +kernel
theorem dX12_rules_13 : decode cX12_rules 13 = .ok (.istore_n 1, 1) := by decide +kernel
theorem dX12_rules_14 : decode cX12_rules 14 = .ok (.aload_n 0, 1) := by decide +kernel
theorem dX12_rules_15 : decode cX12_rules 15 = .ok (.getfield 143, 3) := by decide +kernel
theorem dX12_rules_18 : decode cX12_rules 18 = .ok (.istore_n 2, 1) := by decide +kernel
theorem dX12_rules_19 : decode cX12_rules 19 = .ok (.aload_n 0, 1) := by decide +kernel
theorem dX12_rules_20 : decode cX12_rules 20 = .ok (.invokevirtual 217, 3) := by decide +kernel
theorem dX12_rules_23 : decode cX12_rules 23 = .ok (.istore_n 3, 1) := by decide +kernel
theorem dX12_rules_24 : decode cX12_rules 24 = .ok (.aload_n 0, 1) := by decide +kernel
theorem dX12_rules_25 : decode cX12_rules 25 = .ok (.getfield 202, 3) := by decide +kernel
theorem dX12_rules_28 : decode cX12_rules 28 = .ok (.istore 4, 2) := by decide +kernel
theorem dX12_rules_30 : decode cX12_rules 30 = .ok (.iload_n 1, 1) := by decide +kernel
theorem dX12_rules_31 : decode cX12_rules 31 = .ok (.ifCond .eq 67, 3) := by decide +kernel
theorem dX12_rules_34 : decode cX12_rules 34 = .ok (.iload_n 3, 1) := by decide +kernel
theorem dX12_rules_35 : decode cX12_rules 35 = .ok (.iconst (-1), 1) := by decide +kernel
theorem dX12_rules_36 : decode cX12_rules 36 = .ok (.if_icmp .ne 62, 3) := by decide +kernel
theorem dX12_rules_39 : decode cX12_rules 39 = .ok (.aload_n 0, 1) := by decide +kernel
theorem dX12_rules_40 : decode cX12_rules 40 = .ok (.invokevirtual 220, 3) := by decide +kernel
theorem dX12_rules_43 : decode cX12_rules 43 = .ok (.aload_n 0, 1) := by decide +kernel
theorem dX12_rules_44 : decode cX12_rules 44 = .ok (.getfield 9, 3) := by decide +kernel
theorem dX12_rules_47 : decode cX12_rules 47 = .ok (.iconst 0, 1) := by decide +kernel
theorem dX12_rules_48 : decode cX12_rules 48 = .ok (.aload_n 0, 1) := by decide +kernel
theorem dX12_rules_49 : decode cX12_rules 49 = .ok (.getfield 137, 3) := by decide +kernel
theorem dX12_rules_52 : decode cX12_rules 52 = .ok (.iastore, 1) := by decide +kernel
theorem dX12_rules_53 : decode cX12_rules 53 = .ok (.iconst 0, 1) := by decide +kernel
theorem dX12_rules_54 : decode cX12_rules 54 = .ok (.istore 5, 2) := by decide +kernel
theorem dX12_rules_56 : decode cX12_rules 56 = .ok (.iload 5, 2) := by decide +kernel
theorem dX12_rules_58 : decode cX12_rules 58 = .ok (.bipush 80, 2) := by decide +kernel
theorem dX12_rules_60 : decode cX12_rules 60 = .ok (.if_icmp .ge 38, 3) := by decide +kernel
theorem dX12_rules_63 : decode cX12_rules 63 = .ok (.aload_n 0, 1) := by decide +kernel
theorem dX12_rules_64 : decode cX12_rules 64 = .ok (.getfield 9, 3) := by decide +kernel
theorem dX12_rules_67 : decode cX12_rules 67 = .ok (.iconst 1, 1) := by decide +kernel
theorem dX12_rules_68 : decode cX12_rules 68 = .ok (.iload 5, 2) := by decide +kernel
theorem dX12_rules_70 : decode cX12_rules 70 = .ok (.iadd, 1) := by decide +kernel
theorem dX12_rules_71 : decode cX12_rules 71 = .ok (.iload 5, 2) := by decide +kernel
theorem dX12_rules_73 : decode cX12_rules 73 = .ok (.aload_n 0, 1) := by decide +kernel
theorem dX12_rules_74 : decode cX12_rules 74 = .ok (.getfield 137, 3) := by decide +kernel
theorem dX12_rules_77 : decode cX12_rules 77 = .ok (.if_icmp .ge 13, 3) := by decide +kernel
theorem dX12_rules_80 : decode cX12_rules 80 = .ok (.aload_n 0, 1) := by decide +kernel
theorem dX12_rules_81 : decode cX12_rules 81 = .ok (.getfield 21, 3) := by decide +kernel
theorem dX12_rules_84 : decode cX12_rules 84 = .ok (.iload 5, 2) := by decide +kernel
theorem dX12_rules_86 : decode cX12_rules 86 = .ok (.iaload, 1) := by decide +kernel
theorem dX12_rules_87 : decode cX12_rules 87 = .ok (.goto 4, 3) := by decide +kernel
theorem dX12_rules_90 : decode cX12_rules 90 = .ok (.iconst 0, 1) := by decide +kernel
theorem dX12_rules_91 : decode cX12_rules 91 = .ok (.iastore, 1) := by decide +kernel
theorem dX12_rules_92 : decode cX12_rules 92 = .ok (.iinc 5 1, 3) := by decide +kernel
theorem dX12_rules_95 : decode cX12_rules 95 = .ok (.goto (-39), 3) := by decide +kernel
theorem dX12_rules_98 : decode cX12_rules 98 = .ok (.aload_n 0, 1) := by decide +kernel
theorem dX12_rules_99 : decode cX12_rules 99 = .ok (.aload_n 0, 1) := by decide +kernel
theorem dX12_rules_100 : decode cX12_rules 100 = .ok (.getfield 9, 3) := by decide +kernel
theorem dX12_rules_103 : decode cX12_rules 103 = .ok (.invokevirtual 119, 3) := by decide +kernel
theorem dX12_rules_106 : decode cX12_rules 106 = .ok (.iload_n 1, 1) := by decide +kernel
theorem dX12_rules_107 : decode cX12_rules 107 = .ok (.ifCond .ne 9, 3) := by decide +kernel
theorem dX12_rules_110 : decode cX12_rules 110 = .ok (.iconst (-1), 1) := by decide +kernel
theorem dX12_rules_111 : decode cX12_rules 111 = .ok (.iload_n 2, 1) := by decide +kernel
theorem dX12_rules_112 : decode cX12_rules 112 = .ok (.isub, 1) := by decide +kernel
theorem dX12_rules_113 : decode cX12_rules 113 = .ok (.goto 17, 3) := by decide +kernel
theorem dX12_rules_116 : decode cX12_rules 116 = .ok (.iload_n 3, 1) := by decide +kernel
theorem dX12_rules_117 : decode cX12_rules 117 = .ok (.iconst (-1), 1) := by decide +kernel
theorem dX12_rules_118 : decode cX12_rules 118 = .ok (.if_icmp .eq 10, 3) := by decide +kernel
theorem dX12_rules_121 : decode cX12_rules 121 = .ok (.bipush (-100), 2) := by decide +kernel
theorem dX12_rules_123 : decode cX12_rules 123 = .ok (.iload_n 3, 1) := by decide +kernel
theorem dX12_rules_124 : decode cX12_rules 124 = .ok (.isub, 1) := by decide +kernel
theorem dX12_rules_125 : decode cX12_rules 125 = .ok (.goto 5, 3) := by decide +kernel
theorem dX12_rules_128 : decode cX12_rules 128 = .ok (.iload 4, 2) := by decide +kernel
theorem dX12_rules_130 : decode cX12_rules 130 = .ok (.ireturn, 1) := by decide +kernel
theorem dX12_line_0 : decode cX12_line 0 = .ok (.aload_n 0, 1) := by decide +kernel
theorem dX12_line_1 : decode cX12_line 1 = .ok (.iconst 0, 1) := by decide +kernel
theorem dX12_line_2 : decode cX12_line 2 = .ok (.putfield 123, 3) := by decide +kernel
theorem dX12_line_5 : decode cX12_line 5 = .ok (.aload_n 0, 1) := by decide +kernel
theorem dX12_line_6 : decode cX12_line 6 = .ok (.invokevirtual 214, 3) := by decide +kernel
theorem dX12_line_9 : decode cX12_line 9 = .ok (.iconst 0, 1) := by decide +kernel
theorem dX12_line_10 : decode cX12_line 10 = .ok (.istore_n 1, 1) := by decide +kernel
theorem dX12_line_11 : decode cX12_line 11 = .ok (.aload_n 0, 1) := by decide +kernel
theorem dX12_line_12 : decode cX12_line 12 = .ok (.invokevirtual 146, 3) := by decide +kernel
theorem dX12_line_15 : decode cX12_line 15 = .ok (.ifCond .eq 58, 3) := by decide +kernel
theorem dX12_line_18 : decode cX12_line 18 = .ok (.aload_n 0, 1) := by decide +kernel
theorem dX12_line_19 : decode cX12_line 19 = .ok (.getfield 140, 3) := by decide +kernel
theorem dX12_line_22 : decode cX12_line 22 = .ok (.aload_n 0, 1) := by decide +kernel
theorem dX12_line_23 : decode cX12_line 23 = .ok (.getfield 137, 3) := by decide +kernel
theorem dX12_line_26 : decode cX12_line 26 = .ok (.if_icmp .ge 47, 3) := by decide +kernel
theorem dX12_line_29 : decode cX12_line 29 = .ok (.iload_n 1, 1) := by decide +kernel
theorem dX12_line_30 : decode cX12_line 30 = .ok (.bipush 24, 2) := by decide +kernel
theorem dX12_line_32 : decode cX12_line 32 = .ok (.if_icmp .ne 11, 3) := by decide +kernel
theorem dX12_line_35 : decode cX12_line 35 = .ok (.aload_n 0, 1) := by decide +kernel
theorem dX12_line_36 : decode cX12_line 36 = .ok (.aload_n 0, 1) := by decide +kernel
theorem dX12_line_37 : decode cX12_line 37 = .ok (.getfield 140, 3) := by decide +kernel
theorem dX12_line_40 : decode cX12_line 40 = .ok (.invokevirtual 158, 3) := by decide +kernel
theorem dX12_line_43 : decode cX12_line 43 = .ok (.aload_n 0, 1) := by decide +kernel
theorem dX12_line_44 : decode cX12_line 44 = .ok (.getfield 55, 3) := by decide +kernel
theorem dX12_line_47 : decode cX12_line 47 = .ok (.iload_n 1, 1) := by decide +kernel
theorem dX12_line_48 : decode cX12_line 48 = .ok (.bipush 24, 2) := by decide +kernel
theorem dX12_line_50 : decode cX12_line 50 = .ok (.if_icmp .ge 7, 3) := by decide +kernel
theorem dX12_line_53 : decode cX12_line 53 = .ok (.iload_n 1, 1) := by decide +kernel
theorem dX12_line_54 : decode cX12_line 54 = .ok (.goto 4, 3) := by decide +kernel
theorem dX12_line_57 : decode cX12_line 57 = .ok (.iconst 0, 1) := by decide +kernel
theorem dX12_line_58 : decode cX12_line 58 = .ok (.aload_n 0, 1) := by decide +kernel
theorem dX12_line_59 : decode cX12_line 59 = .ok (.bipush 97, 2) := by decide +kernel
theorem dX12_line_61 : decode cX12_line 61 = .ok (.bipush 8, 2) := by decide +kernel
theorem dX12_line_63 : decode cX12_line 63 = .ok (.invokevirtual 162, 3) := by decide +kernel
theorem dX12_line_66 : decode cX12_line 66 = .ok (.iastore, 1) := by decide +kernel
theorem dX12_line_67 : decode cX12_line 67 = .ok (.iinc 1 1, 3) := by decide +kernel
theorem dX12_line_70 : decode cX12_line 70 = .ok (.goto (-59), 3) := by decide +kernel
theorem dX12_line_73 : decode cX12_line 73 = .ok (.aload_n 0, 1) := by decide +kernel
theorem dX12_line_74 : decode cX12_line 74 = .ok (.invokevirtual 208, 3) := by decide +kernel
theorem dX12_line_77 : decode cX12_line 77 = .ok (.ifCond .ne 10, 3) := by decide +kernel
theorem dX12_line_80 : decode cX12_line 80 = .ok (.iconst (-1), 1) := by decide +kernel
theorem dX12_line_81 : decode cX12_line 81 = .ok (.aload_n 0, 1) := by decide +kernel
theorem dX12_line_82 : decode cX12_line 82 = .ok (.getfield 143, 3) := by decide +kernel
theorem dX12_line_85 : decode cX12_line 85 = .ok (.isub, 1) := by decide +kernel
theorem dX12_line_86 : decode cX12_line 86 = .ok (.ireturn, 1) := by decide +kernel
theorem dX12_line_87 : decode cX12_line 87 = .ok (.aload_n 0, 1) := by decide +kernel
theorem dX12_line_88 : decode cX12_line 88 = .ok (.invokevirtual 220, 3) := by decide +kernel
theorem dX12_line_91 : decode cX12_line 91 = .ok (.aload_n 0, 1) := by decide +kernel
theorem dX12_line_92 : decode cX12_line 92 = .ok (.iload_n 1, 1) := by decide +kernel
theorem dX12_line_93 : decode cX12_line 93 = .ok (.invokevirtual 223, 3) := by decide +kernel
theorem dX12_line_96 : decode cX12_line 96 = .ok (.iload_n 1, 1) := by decide +kernel
theorem dX12_line_97 : decode cX12_line 97 = .ok (.ireturn, 1) := by decide +kernel
theorem dX12_setLine_0 : decode cX12_setLine 0 = .ok (.aload_n 0, 1) := by decide +kernel
theorem dX12_setLine_1 : decode cX12_setLine 1 = .ok (.getfield 9, 3) := by decide +kernel
theorem dX12_setLine_4 : decode cX12_setLine 4 = .ok (.bipush 81, 2) := by decide +kernel
theorem dX12_setLine_6 : decode cX12_setLine 6 = .ok (.iload_n 1, 1) := by decide +kernel
theorem dX12_setLine_7 : decode cX12_setLine 7 = .ok (.iastore, 1) := by decide +kernel
theorem dX12_setLine_8 : decode cX12_setLine 8 = .ok (.iconst 0, 1) := by decide +kernel
theorem dX12_setLine_9 : decode cX12_setLine 9 = .ok (.istore_n 2, 1) := by decide +kernel
theorem dX12_setLine_10 : decode cX12_setLine 10 = .ok (.iload_n 2, 1) := by decide +kernel
theorem dX12_setLine_11 : decode cX12_setLine 11 = .ok (.bipush 24, 2) := by decide +kernel
theorem dX12_setLine_13 : decode cX12_setLine 13 = .ok (.if_icmp .ge 33, 3) := by decide +kernel
theorem dX12_setLine_16 : decode cX12_setLine 16 = .ok (.aload_n 0, 1) := by decide +kernel
theorem dX12_setLine_17 : decode cX12_setLine 17 = .ok (.getfield 9, 3) := by decide +kernel
theorem dX12_setLine_20 : decode cX12_setLine 20 = .ok (.bipush 82, 2) := by decide +kernel
theorem dX12_setLine_22 : decode cX12_setLine 22 = .ok (.iload_n 2, 1) := by decide +kernel
theorem dX12_setLine_23 : decode cX12_setLine 23 = .ok (.iadd, 1) := by decide +kernel
theorem dX12_setLine_24 : decode cX12_setLine 24 = .ok (.iload_n 2, 1) := by decide +kernel
theorem dX12_setLine_25 : decode cX12_setLine 25 = .ok (.iload_n 1, 1) := by decide +kernel
theorem dX12_setLine_26 : decode cX12_setLine 26 = .ok (.if_icmp .ge 12, 3) := by decide +kernel
theorem dX12_setLine_29 : decode cX12_setLine 29 = .ok (.aload_n 0, 1) := by decide +kernel
theorem dX12_setLine_30 : decode cX12_setLine 30 = .ok (.getfield 55, 3) := by decide +kernel
theorem dX12_setLine_33 : decode cX12_setLine 33 = .ok (.iload_n 2, 1) := by decide +kernel
theorem dX12_setLine_34 : decode cX12_setLine 34 = .ok (.iaload, 1) := by decide +kernel
theorem dX12_setLine_35 : decode cX12_setLine 35 = .ok (.goto 4, 3) := by decide +kernel
theorem dX12_setLine_38 : decode cX12_setLine 38 = .ok (.iconst 0, 1) := by decide +kernel
theorem dX12_setLine_39 : decode cX12_setLine 39 = .ok (.iastore, 1) := by decide +kernel
theorem dX12_setLine_40 : decode cX12_setLine 40 = .ok (.iinc 2 1, 3) := by decide +kernel
theorem dX12_setLine_43 : decode cX12_setLine 43 = .ok (.goto (-33), 3) := by decide +kernel
theorem dX12_setLine_46 : decode cX12_setLine 46 = .ok (.return_, 1) := by decide +kernel
theorem dX12_rule_0 : decode cX12_rule 0 = .ok (.aload_n 0, 1) := by decide +kernel
theorem dX12_rule_1 : decode cX12_rule 1 = .ok (.iconst 0, 1) := by decide +kernel
theorem dX12_rule_2 : decode cX12_rule 2 = .ok (.putfield 123, 3) := by decide +kernel
theorem dX12_rule_5 : decode cX12_rule 5 = .ok (.iload_n 1, 1) := by decide +kernel
theorem dX12_rule_6 : decode cX12_rule 6 = .ok (.iconst 0, 1) := by decide +kernel
theorem dX12_rule_7 : decode cX12_rule 7 = .ok (.aload_n 0, 1) := by decide +kernel
theorem dX12_rule_8 : decode cX12_rule 8 = .ok (.getfield 202, 3) := by decide +kernel
theorem dX12_rule_11 : decode cX12_rule 11 = .ok (.iconst 1, 1) := by decide +kernel
theorem dX12_rule_12 : decode cX12_rule 12 = .ok (.isub, 1) := by decide +kernel
theorem dX12_rule_13 : decode cX12_rule 13 = .ok (.invokestatic 133, 3) := by decide +kernel
theorem dX12_rule_16 : decode cX12_rule 16 = .ok (.ifCond .ne 8, 3) := by decide +kernel
theorem dX12_rule_19 : decode cX12_rule 19 = .ok (.aload_n 0, 1) := by decide +kernel
theorem dX12_rule_20 : decode cX12_rule 20 = .ok (.invokevirtual 226, 3) := by decide +kernel
theorem dX12_rule_23 : decode cX12_rule 23 = .ok (.ireturn, 1) := by decide +kernel
theorem dX12_rule_24 : decode cX12_rule 24 = .ok (.iload_n 2, 1) := by decide +kernel
theorem dX12_rule_25 : decode cX12_rule 25 = .ok (.tableswitch 78 0 4 #[35, 42, 49, 56, 63], 35) := by decide +kernel
theorem dX12_rule_60 : decode cX12_rule 60 = .ok (.aload_n 0, 1) := by decide +kernel
theorem dX12_rule_61 : decode cX12_rule 61 = .ok (.getfield 24, 3) := by decide +kernel
theorem dX12_rule_64 : decode cX12_rule 64 = .ok (.iload_n 1, 1) := by decide +kernel
theorem dX12_rule_65 : decode cX12_rule 65 = .ok (.iaload, 1) := by decide +kernel
theorem dX12_rule_66 : decode cX12_rule 66 = .ok (.ireturn, 1) := by decide +kernel
theorem dX12_rule_67 : decode cX12_rule 67 = .ok (.aload_n 0, 1) := by decide +kernel
theorem dX12_rule_68 : decode cX12_rule 68 = .ok (.getfield 27, 3) := by decide +kernel
theorem dX12_rule_71 : decode cX12_rule 71 = .ok (.iload_n 1, 1) := by decide +kernel
theorem dX12_rule_72 : decode cX12_rule 72 = .ok (.iaload, 1) := by decide +kernel
theorem dX12_rule_73 : decode cX12_rule 73 = .ok (.ireturn, 1) := by decide +kernel
theorem dX12_rule_74 : decode cX12_rule 74 = .ok (.aload_n 0, 1) := by decide +kernel
theorem dX12_rule_75 : decode cX12_rule 75 = .ok (.getfield 30, 3) := by decide +kernel
theorem dX12_rule_78 : decode cX12_rule 78 = .ok (.iload_n 1, 1) := by decide +kernel
theorem dX12_rule_79 : decode cX12_rule 79 = .ok (.iaload, 1) := by decide +kernel
theorem dX12_rule_80 : decode cX12_rule 80 = .ok (.ireturn, 1) := by decide +kernel
theorem dX12_rule_81 : decode cX12_rule 81 = .ok (.aload_n 0, 1) := by decide +kernel
theorem dX12_rule_82 : decode cX12_rule 82 = .ok (.getfield 33, 3) := by decide +kernel
theorem dX12_rule_85 : decode cX12_rule 85 = .ok (.iload_n 1, 1) := by decide +kernel
theorem dX12_rule_86 : decode cX12_rule 86 = .ok (.iaload, 1) := by decide +kernel
theorem dX12_rule_87 : decode cX12_rule 87 = .ok (.ireturn, 1) := by decide +kernel
theorem dX12_rule_88 : decode cX12_rule 88 = .ok (.aload_n 0, 1) := by decide +kernel
theorem dX12_rule_89 : decode cX12_rule 89 = .ok (.getfield 36, 3) := by decide +kernel
theorem dX12_rule_92 : decode cX12_rule 92 = .ok (.iload_n 1, 1) := by decide +kernel
theorem dX12_rule_93 : decode cX12_rule 93 = .ok (.baload, 1) := by decide +kernel
theorem dX12_rule_94 : decode cX12_rule 94 = .ok (.ifCond .eq 7, 3) := by decide +kernel
theorem dX12_rule_97 : decode cX12_rule 97 = .ok (.iconst 1, 1) := by decide +kernel
theorem dX12_rule_98 : decode cX12_rule 98 = .ok (.goto 4, 3) := by decide +kernel
theorem dX12_rule_101 : decode cX12_rule 101 = .ok (.iconst 0, 1) := by decide +kernel
theorem dX12_rule_102 : decode cX12_rule 102 = .ok (.ireturn, 1) := by decide +kernel
theorem dX12_rule_103 : decode cX12_rule 103 = .ok (.aload_n 0, 1) := by decide +kernel
theorem dX12_rule_104 : decode cX12_rule 104 = .ok (.invokevirtual 226, 3) := by decide +kernel
theorem dX12_rule_107 : decode cX12_rule 107 = .ok (.ireturn, 1) := by decide +kernel
theorem dX12_at_0 : decode cX12_at 0 = .ok (.aload_n 0, 1) := by decide +kernel
theorem dX12_at_1 : decode cX12_at 1 = .ok (.iconst 0, 1) := by decide +kernel
theorem dX12_at_2 : decode cX12_at 2 = .ok (.putfield 123, 3) := by decide +kernel
theorem dX12_at_5 : decode cX12_at 5 = .ok (.iload_n 1, 1) := by decide +kernel
theorem dX12_at_6 : decode cX12_at 6 = .ok (.iconst 0, 1) := by decide +kernel
theorem dX12_at_7 : decode cX12_at 7 = .ok (.aload_n 0, 1) := by decide +kernel
theorem dX12_at_8 : decode cX12_at 8 = .ok (.getfield 9, 3) := by decide +kernel
theorem dX12_at_11 : decode cX12_at 11 = .ok (.bipush 81, 2) := by decide +kernel
theorem dX12_at_13 : decode cX12_at 13 = .ok (.iaload, 1) := by decide +kernel
theorem dX12_at_14 : decode cX12_at 14 = .ok (.iconst 1, 1) := by decide +kernel
theorem dX12_at_15 : decode cX12_at 15 = .ok (.isub, 1) := by decide +kernel
theorem dX12_at_16 : decode cX12_at 16 = .ok (.invokestatic 133, 3) := by decide +kernel
theorem dX12_at_19 : decode cX12_at 19 = .ok (.ifCond .eq 15, 3) := by decide +kernel
theorem dX12_at_22 : decode cX12_at 22 = .ok (.aload_n 0, 1) := by decide +kernel
theorem dX12_at_23 : decode cX12_at 23 = .ok (.getfield 9, 3) := by decide +kernel
theorem dX12_at_26 : decode cX12_at 26 = .ok (.bipush 82, 2) := by decide +kernel
theorem dX12_at_28 : decode cX12_at 28 = .ok (.iload_n 1, 1) := by decide +kernel
theorem dX12_at_29 : decode cX12_at 29 = .ok (.iadd, 1) := by decide +kernel
theorem dX12_at_30 : decode cX12_at 30 = .ok (.iaload, 1) := by decide +kernel
theorem dX12_at_31 : decode cX12_at 31 = .ok (.goto 7, 3) := by decide +kernel
theorem dX12_at_34 : decode cX12_at 34 = .ok (.aload_n 0, 1) := by decide +kernel
theorem dX12_at_35 : decode cX12_at 35 = .ok (.invokevirtual 226, 3) := by decide +kernel
theorem dX12_at_38 : decode cX12_at 38 = .ok (.ireturn, 1) := by decide +kernel
theorem dX12_sheet_0 : decode cX12_sheet 0 = .ok (.aload_n 0, 1) := by decide +kernel
theorem dX12_sheet_1 : decode cX12_sheet 1 = .ok (.iconst 0, 1) := by decide +kernel
theorem dX12_sheet_2 : decode cX12_sheet 2 = .ok (.putfield 123, 3) := by decide +kernel
theorem dX12_sheet_5 : decode cX12_sheet 5 = .ok (.iload_n 1, 1) := by decide +kernel
theorem dX12_sheet_6 : decode cX12_sheet 6 = .ok (.iconst 0, 1) := by decide +kernel
theorem dX12_sheet_7 : decode cX12_sheet 7 = .ok (.iconst 3, 1) := by decide +kernel
theorem dX12_sheet_8 : decode cX12_sheet 8 = .ok (.invokestatic 133, 3) := by decide +kernel
theorem dX12_sheet_11 : decode cX12_sheet 11 = .ok (.ifCond .eq 9, 3) := by decide +kernel
theorem dX12_sheet_14 : decode cX12_sheet 14 = .ok (.iload_n 2, 1) := by decide +kernel
theorem dX12_sheet_15 : decode cX12_sheet 15 = .ok (.bipush 24, 2) := by decide +kernel
theorem dX12_sheet_17 : decode cX12_sheet 17 = .ok (.if_icmp .le 5, 3) := by decide +kernel
theorem dX12_sheet_20 : decode cX12_sheet 20 = .ok (.iconst (-1), 1) := by decide +kernel
theorem dX12_sheet_21 : decode cX12_sheet 21 = .ok (.ireturn, 1) := by decide +kernel
theorem dX12_sheet_22 : decode cX12_sheet 22 = .ok (.iload_n 1, 1) := by decide +kernel
theorem dX12_sheet_23 : decode cX12_sheet 23 = .ok (.iconst 3, 1) := by decide +kernel
theorem dX12_sheet_24 : decode cX12_sheet 24 = .ok (.if_icmp .ge 10, 3) := by decide +kernel
theorem dX12_sheet_27 : decode cX12_sheet 27 = .ok (.iload_n 2, 1) := by decide +kernel
theorem dX12_sheet_28 : decode cX12_sheet 28 = .ok (.ifCond .ge 6, 3) := by decide +kernel
theorem dX12_sheet_31 : decode cX12_sheet 31 = .ok (.bipush (-2), 2) := by decide +kernel
theorem dX12_sheet_33 : decode cX12_sheet 33 = .ok (.ireturn, 1) := by decide +kernel
theorem dX12_sheet_34 : decode cX12_sheet 34 = .ok (.iload_n 3, 1) := by decide +kernel
theorem dX12_sheet_35 : decode cX12_sheet 35 = .ok (.istore 5, 2) := by decide +kernel
theorem dX12_sheet_37 : decode cX12_sheet 37 = .ok (.iconst 0, 1) := by decide +kernel
theorem dX12_sheet_38 : decode cX12_sheet 38 = .ok (.istore 6, 2) := by decide +kernel
theorem dX12_sheet_40 : decode cX12_sheet 40 = .ok (.iload 6, 2) := by decide +kernel
theorem dX12_sheet_42 : decode cX12_sheet 42 = .ok (.bipush 24, 2) := by decide +kernel
theorem dX12_sheet_44 : decode cX12_sheet 44 = .ok (.if_icmp .ge 53, 3) := by decide +kernel
theorem dX12_sheet_47 : decode cX12_sheet 47 = .ok (.iload_n 1, 1) := by decide +kernel
theorem dX12_sheet_48 : decode cX12_sheet 48 = .ok (.ifCond .ne 9, 3) := by decide +kernel
theorem dX12_sheet_51 : decode cX12_sheet 51 = .ok (.iload 5, 2) := by decide +kernel
theorem dX12_sheet_53 : decode cX12_sheet 53 = .ok (.i2b, 1) := by decide +kernel
theorem dX12_sheet_54 : decode cX12_sheet 54 = .ok (.goto 16, 3) := by decide +kernel
theorem dX12_sheet_57 : decode cX12_sheet 57 = .ok (.iload_n 1, 1) := by decide +kernel
theorem dX12_sheet_58 : decode cX12_sheet 58 = .ok (.iconst 1, 1) := by decide +kernel
theorem dX12_sheet_59 : decode cX12_sheet 59 = .ok (.if_icmp .ne 9, 3) := by decide +kernel
theorem dX12_sheet_62 : decode cX12_sheet 62 = .ok (.iload 5, 2) := by decide +kernel
theorem dX12_sheet_64 : decode cX12_sheet 64 = .ok (.i2s, 1) := by decide +kernel
theorem dX12_sheet_65 : decode cX12_sheet 65 = .ok (.goto 5, 3) := by decide +kernel
theorem dX12_sheet_68 : decode cX12_sheet 68 = .ok (.iload 5, 2) := by decide +kernel
theorem dX12_sheet_70 : decode cX12_sheet 70 = .ok (.istore 7, 2) := by decide +kernel
theorem dX12_sheet_72 : decode cX12_sheet 72 = .ok (.aload_n 0, 1) := by decide +kernel
theorem dX12_sheet_73 : decode cX12_sheet 73 = .ok (.getfield 55, 3) := by decide +kernel
theorem dX12_sheet_76 : decode cX12_sheet 76 = .ok (.iload 6, 2) := by decide +kernel
theorem dX12_sheet_78 : decode cX12_sheet 78 = .ok (.iload 7, 2) := by decide +kernel
theorem dX12_sheet_80 : decode cX12_sheet 80 = .ok (.bipush 7, 2) := by decide +kernel
theorem dX12_sheet_82 : decode cX12_sheet 82 = .ok (.iand, 1) := by decide +kernel
theorem dX12_sheet_83 : decode cX12_sheet 83 = .ok (.iastore, 1) := by decide +kernel
theorem dX12_sheet_84 : decode cX12_sheet 84 = .ok (.iload 5, 2) := by decide +kernel
theorem dX12_sheet_86 : decode cX12_sheet 86 = .ok (.iload 4, 2) := by decide +kernel
theorem dX12_sheet_88 : decode cX12_sheet 88 = .ok (.iadd, 1) := by decide +kernel
theorem dX12_sheet_89 : decode cX12_sheet 89 = .ok (.istore 5, 2) := by decide +kernel
theorem dX12_sheet_91 : decode cX12_sheet 91 = .ok (.iinc 6 1, 3) := by decide +kernel
theorem dX12_sheet_94 : decode cX12_sheet 94 = .ok (.goto (-54), 3) := by decide +kernel
theorem dX12_sheet_97 : decode cX12_sheet 97 = .ok (.aload_n 0, 1) := by decide +kernel
theorem dX12_sheet_98 : decode cX12_sheet 98 = .ok (.iload_n 1, 1) := by decide +kernel
theorem dX12_sheet_99 : decode cX12_sheet 99 = .ok (.iconst 3, 1) := by decide +kernel
theorem dX12_sheet_100 : decode cX12_sheet 100 = .ok (.if_icmp .ne 7, 3) := by decide +kernel
theorem dX12_sheet_103 : decode cX12_sheet 103 = .ok (.iconst 0, 1) := by decide +kernel
theorem dX12_sheet_104 : decode cX12_sheet 104 = .ok (.goto 4, 3) := by decide +kernel
theorem dX12_sheet_107 : decode cX12_sheet 107 = .ok (.iload_n 2, 1) := by decide +kernel
theorem dX12_sheet_108 : decode cX12_sheet 108 = .ok (.invokevirtual 223, 3) := by decide +kernel
theorem dX12_sheet_111 : decode cX12_sheet 111 = .ok (.iload_n 1, 1) := by decide +kernel
theorem dX12_sheet_112 : decode cX12_sheet 112 = .ok (.iconst 3, 1) := by decide +kernel
theorem dX12_sheet_113 : decode cX12_sheet 113 = .ok (.if_icmp .ne 8, 3) := by decide +kernel
theorem dX12_sheet_116 : decode cX12_sheet 116 = .ok (.bipush (-3), 2) := by decide +kernel
theorem dX12_sheet_118 : decode cX12_sheet 118 = .ok (.goto 4, 3) := by decide +kernel
theorem dX12_sheet_121 : decode cX12_sheet 121 = .ok (.iload_n 2, 1) := by decide +kernel
theorem dX12_sheet_122 : decode cX12_sheet 122 = .ok (.ireturn, 1) := by decide +kernel
theorem dX12_step_0 : decode cX12_step 0 = .ok (.iconst 0, 1) := by decide +kernel
theorem dX12_step_1 : decode cX12_step 1 = .ok (.istore 5, 2) := by decide +kernel
theorem dX12_step_3 : decode cX12_step 3 = .ok (.iload_n 3, 1) := by decide +kernel
theorem dX12_step_4 : decode cX12_step 4 = .ok (.ifCond .eq 51, 3) := by decide +kernel
theorem dX12_step_7 : decode cX12_step 7 = .ok (.iconst 0, 1) := by decide +kernel
theorem dX12_step_8 : decode cX12_step 8 = .ok (.istore 6, 2) := by decide +kernel
theorem dX12_step_10 : decode cX12_step 10 = .ok (.iload 6, 2) := by decide +kernel
theorem dX12_step_12 : decode cX12_step 12 = .ok (.aload_n 0, 1) := by decide +kernel
theorem dX12_step_13 : decode cX12_step 13 = .ok (.getfield 202, 3) := by decide +kernel
theorem dX12_step_16 : decode cX12_step 16 = .ok (.if_icmp .ge 36, 3) := by decide +kernel
theorem dX12_step_19 : decode cX12_step 19 = .ok (.iload 5, 2) := by decide +kernel
theorem dX12_step_21 : decode cX12_step 21 = .ok (.aload_n 0, 1) := by decide +kernel
theorem dX12_step_22 : decode cX12_step 22 = .ok (.getfield 24, 3) := by decide +kernel
theorem dX12_step_25 : decode cX12_step 25 = .ok (.iload 6, 2) := by decide +kernel
theorem dX12_step_27 : decode cX12_step 27 = .ok (.iaload, 1) := by decide +kernel
theorem dX12_step_28 : decode cX12_step 28 = .ok (.iload_n 1, 1) := by decide +kernel
theorem dX12_step_29 : decode cX12_step 29 = .ok (.if_icmp .ne 13, 3) := by decide +kernel
theorem dX12_step_32 : decode cX12_step 32 = .ok (.aload_n 0, 1) := by decide +kernel
theorem dX12_step_33 : decode cX12_step 33 = .ok (.getfield 40, 3) := by decide +kernel
theorem dX12_step_36 : decode cX12_step 36 = .ok (.iload 6, 2) := by decide +kernel
theorem dX12_step_38 : decode cX12_step 38 = .ok (.iaload, 1) := by decide +kernel
theorem dX12_step_39 : decode cX12_step 39 = .ok (.goto 4, 3) := by decide +kernel
theorem dX12_step_42 : decode cX12_step 42 = .ok (.iconst 0, 1) := by decide +kernel
theorem dX12_step_43 : decode cX12_step 43 = .ok (.ior, 1) := by decide +kernel
theorem dX12_step_44 : decode cX12_step 44 = .ok (.istore 5, 2) := by decide +kernel
theorem dX12_step_46 : decode cX12_step 46 = .ok (.iinc 6 1, 3) := by decide +kernel
theorem dX12_step_49 : decode cX12_step 49 = .ok (.goto (-39), 3) := by decide +kernel
theorem dX12_step_52 : decode cX12_step 52 = .ok (.goto 50, 3) := by decide +kernel
theorem dX12_step_55 : decode cX12_step 55 = .ok (.iconst 0, 1) := by decide +kernel
theorem dX12_step_56 : decode cX12_step 56 = .ok (.istore 6, 2) := by decide +kernel
theorem dX12_step_58 : decode cX12_step 58 = .ok (.iload 6, 2) := by decide +kernel
theorem dX12_step_60 : decode cX12_step 60 = .ok (.bipush 10, 2) := by decide +kernel
theorem dX12_step_62 : decode cX12_step 62 = .ok (.if_icmp .ge 40, 3) := by decide +kernel
theorem dX12_step_65 : decode cX12_step 65 = .ok (.iload 5, 2) := by decide +kernel
theorem dX12_step_67 : decode cX12_step 67 = .ok (.iload_n 2, 1) := by decide +kernel
theorem dX12_step_68 : decode cX12_step 68 = .ok (.iload 6, 2) := by decide +kernel
theorem dX12_step_70 : decode cX12_step 70 = .ok (.ishr, 1) := by decide +kernel
theorem dX12_step_71 : decode cX12_step 71 = .ok (.iconst 1, 1) := by decide +kernel
theorem dX12_step_72 : decode cX12_step 72 = .ok (.iand, 1) := by decide +kernel
theorem dX12_step_73 : decode cX12_step 73 = .ok (.iconst 1, 1) := by decide +kernel
theorem dX12_step_74 : decode cX12_step 74 = .ok (.if_icmp .ne 18, 3) := by decide +kernel
theorem dX12_step_77 : decode cX12_step 77 = .ok (.aload_n 0, 1) := by decide +kernel
theorem dX12_step_78 : decode cX12_step 78 = .ok (.getfield 52, 3) := by decide +kernel
theorem dX12_step_81 : decode cX12_step 81 = .ok (.bipush 10, 2) := by decide +kernel
theorem dX12_step_83 : decode cX12_step 83 = .ok (.iload_n 1, 1) := by decide +kernel
theorem dX12_step_84 : decode cX12_step 84 = .ok (.imul, 1) := by decide +kernel
theorem dX12_step_85 : decode cX12_step 85 = .ok (.iload 6, 2) := by decide +kernel
theorem dX12_step_87 : decode cX12_step 87 = .ok (.iadd, 1) := by decide +kernel
theorem dX12_step_88 : decode cX12_step 88 = .ok (.iaload, 1) := by decide +kernel
theorem dX12_step_89 : decode cX12_step 89 = .ok (.goto 4, 3) := by decide +kernel
theorem dX12_step_92 : decode cX12_step 92 = .ok (.iconst 0, 1) := by decide +kernel
theorem dX12_step_93 : decode cX12_step 93 = .ok (.ior, 1) := by decide +kernel
theorem dX12_step_94 : decode cX12_step 94 = .ok (.istore 5, 2) := by decide +kernel
theorem dX12_step_96 : decode cX12_step 96 = .ok (.iinc 6 1, 3) := by decide +kernel
theorem dX12_step_99 : decode cX12_step 99 = .ok (.goto (-41), 3) := by decide +kernel
theorem dX12_step_102 : decode cX12_step 102 = .ok (.iconst 0, 1) := by decide +kernel
theorem dX12_step_103 : decode cX12_step 103 = .ok (.istore 6, 2) := by decide +kernel
theorem dX12_step_105 : decode cX12_step 105 = .ok (.iconst 0, 1) := by decide +kernel
theorem dX12_step_106 : decode cX12_step 106 = .ok (.istore 7, 2) := by decide +kernel
theorem dX12_step_108 : decode cX12_step 108 = .ok (.iload 7, 2) := by decide +kernel
theorem dX12_step_110 : decode cX12_step 110 = .ok (.aload_n 0, 1) := by decide +kernel
theorem dX12_step_111 : decode cX12_step 111 = .ok (.getfield 46, 3) := by decide +kernel
theorem dX12_step_114 : decode cX12_step 114 = .ok (.iload_n 1, 1) := by decide +kernel
theorem dX12_step_115 : decode cX12_step 115 = .ok (.iaload, 1) := by decide +kernel
theorem dX12_step_116 : decode cX12_step 116 = .ok (.if_icmp .ge 63, 3) := by decide +kernel
theorem dX12_step_119 : decode cX12_step 119 = .ok (.iload 5, 2) := by decide +kernel
theorem dX12_step_121 : decode cX12_step 121 = .ok (.iload 7, 2) := by decide +kernel
theorem dX12_step_123 : decode cX12_step 123 = .ok (.ishr, 1) := by decide +kernel
theorem dX12_step_124 : decode cX12_step 124 = .ok (.iconst 1, 1) := by decide +kernel
theorem dX12_step_125 : decode cX12_step 125 = .ok (.iand, 1) := by decide +kernel
theorem dX12_step_126 : decode cX12_step 126 = .ok (.iconst 1, 1) := by decide +kernel
theorem dX12_step_127 : decode cX12_step 127 = .ok (.if_icmp .ne 46, 3) := by decide +kernel
theorem dX12_step_130 : decode cX12_step 130 = .ok (.aload_n 0, 1) := by decide +kernel
theorem dX12_step_131 : decode cX12_step 131 = .ok (.getfield 49, 3) := by decide +kernel
theorem dX12_step_134 : decode cX12_step 134 = .ok (.bipush 10, 2) := by decide +kernel
theorem dX12_step_136 : decode cX12_step 136 = .ok (.iload_n 1, 1) := by decide +kernel
theorem dX12_step_137 : decode cX12_step 137 = .ok (.imul, 1) := by decide +kernel
theorem dX12_step_138 : decode cX12_step 138 = .ok (.iload 7, 2) := by decide +kernel
theorem dX12_step_140 : decode cX12_step 140 = .ok (.iadd, 1) := by decide +kernel
theorem dX12_step_141 : decode cX12_step 141 = .ok (.iaload, 1) := by decide +kernel
theorem dX12_step_142 : decode cX12_step 142 = .ok (.bipush 8, 2) := by decide +kernel
theorem dX12_step_144 : decode cX12_step 144 = .ok (.if_icmp .eq 20, 3) := by decide +kernel
theorem dX12_step_147 : decode cX12_step 147 = .ok (.aload_n 0, 1) := by decide +kernel
theorem dX12_step_148 : decode cX12_step 148 = .ok (.getfield 49, 3) := by decide +kernel
theorem dX12_step_151 : decode cX12_step 151 = .ok (.bipush 10, 2) := by decide +kernel
theorem dX12_step_153 : decode cX12_step 153 = .ok (.iload_n 1, 1) := by decide +kernel
theorem dX12_step_154 : decode cX12_step 154 = .ok (.imul, 1) := by decide +kernel
theorem dX12_step_155 : decode cX12_step 155 = .ok (.iload 7, 2) := by decide +kernel
theorem dX12_step_157 : decode cX12_step 157 = .ok (.iadd, 1) := by decide +kernel
theorem dX12_step_158 : decode cX12_step 158 = .ok (.iaload, 1) := by decide +kernel
theorem dX12_step_159 : decode cX12_step 159 = .ok (.iload 4, 2) := by decide +kernel
theorem dX12_step_161 : decode cX12_step 161 = .ok (.if_icmp .ne 12, 3) := by decide +kernel
theorem dX12_step_164 : decode cX12_step 164 = .ok (.iload 6, 2) := by decide +kernel
theorem dX12_step_166 : decode cX12_step 166 = .ok (.iconst 1, 1) := by decide +kernel
theorem dX12_step_167 : decode cX12_step 167 = .ok (.iload 7, 2) := by decide +kernel
theorem dX12_step_169 : decode cX12_step 169 = .ok (.ishl, 1) := by decide +kernel
theorem dX12_step_170 : decode cX12_step 170 = .ok (.ior, 1) := by decide +kernel
theorem dX12_step_171 : decode cX12_step 171 = .ok (.istore 6, 2) := by decide +kernel
theorem dX12_step_173 : decode cX12_step 173 = .ok (.iinc 7 1, 3) := by decide +kernel
theorem dX12_step_176 : decode cX12_step 176 = .ok (.goto (-68), 3) := by decide +kernel
theorem dX12_step_179 : decode cX12_step 179 = .ok (.iload 6, 2) := by decide +kernel
theorem dX12_step_181 : decode cX12_step 181 = .ok (.ireturn, 1) := by decide +kernel
theorem dX12_winner_0 : decode cX12_winner 0 = .ok (.iconst 0, 1) := by decide +kernel
theorem dX12_winner_1 : decode cX12_winner 1 = .ok (.istore_n 3, 1) := by decide +kernel
theorem dX12_winner_2 : decode cX12_winner 2 = .ok (.iload_n 3, 1) := by decide +kernel
theorem dX12_winner_3 : decode cX12_winner 3 = .ok (.aload_n 0, 1) := by decide +kernel
theorem dX12_winner_4 : decode cX12_winner 4 = .ok (.getfield 202, 3) := by decide +kernel
theorem dX12_winner_7 : decode cX12_winner 7 = .ok (.if_icmp .ge 32, 3) := by decide +kernel
theorem dX12_winner_10 : decode cX12_winner 10 = .ok (.aload_n 0, 1) := by decide +kernel
theorem dX12_winner_11 : decode cX12_winner 11 = .ok (.getfield 24, 3) := by decide +kernel
theorem dX12_winner_14 : decode cX12_winner 14 = .ok (.iload_n 3, 1) := by decide +kernel
theorem dX12_winner_15 : decode cX12_winner 15 = .ok (.iaload, 1) := by decide +kernel
theorem dX12_winner_16 : decode cX12_winner 16 = .ok (.iload_n 1, 1) := by decide +kernel
theorem dX12_winner_17 : decode cX12_winner 17 = .ok (.if_icmp .ne 16, 3) := by decide +kernel
theorem dX12_winner_20 : decode cX12_winner 20 = .ok (.aload_n 0, 1) := by decide +kernel
theorem dX12_winner_21 : decode cX12_winner 21 = .ok (.getfield 43, 3) := by decide +kernel
theorem dX12_winner_24 : decode cX12_winner 24 = .ok (.iload_n 3, 1) := by decide +kernel
theorem dX12_winner_25 : decode cX12_winner 25 = .ok (.iaload, 1) := by decide +kernel
theorem dX12_winner_26 : decode cX12_winner 26 = .ok (.iload_n 2, 1) := by decide +kernel
theorem dX12_winner_27 : decode cX12_winner 27 = .ok (.iand, 1) := by decide +kernel
theorem dX12_winner_28 : decode cX12_winner 28 = .ok (.ifCond .eq 5, 3) := by decide +kernel
theorem dX12_winner_31 : decode cX12_winner 31 = .ok (.iload_n 3, 1) := by decide +kernel
theorem dX12_winner_32 : decode cX12_winner 32 = .ok (.ireturn, 1) := by decide +kernel
theorem dX12_winner_33 : decode cX12_winner 33 = .ok (.iinc 3 1, 3) := by decide +kernel
theorem dX12_winner_36 : decode cX12_winner 36 = .ok (.goto (-34), 3) := by decide +kernel
theorem dX12_winner_39 : decode cX12_winner 39 = .ok (.iconst (-1), 1) := by decide +kernel
theorem dX12_winner_40 : decode cX12_winner 40 = .ok (.ireturn, 1) := by decide +kernel
theorem dX12_pairOf_0 : decode cX12_pairOf 0 = .ok (.sipush 1024, 3) := by decide +kernel
theorem dX12_pairOf_3 : decode cX12_pairOf 3 = .ok (.iload_n 0, 1) := by decide +kernel
theorem dX12_pairOf_4 : decode cX12_pairOf 4 = .ok (.imul, 1) := by decide +kernel
theorem dX12_pairOf_5 : decode cX12_pairOf 5 = .ok (.iload_n 1, 1) := by decide +kernel
theorem dX12_pairOf_6 : decode cX12_pairOf 6 = .ok (.iadd, 1) := by decide +kernel
theorem dX12_pairOf_7 : decode cX12_pairOf 7 = .ok (.bipush 25, 2) := by decide +kernel
theorem dX12_pairOf_9 : decode cX12_pairOf 9 = .ok (.imul, 1) := by decide +kernel
theorem dX12_pairOf_10 : decode cX12_pairOf 10 = .ok (.iload_n 2, 1) := by decide +kernel
theorem dX12_pairOf_11 : decode cX12_pairOf 11 = .ok (.iadd, 1) := by decide +kernel
theorem dX12_pairOf_12 : decode cX12_pairOf 12 = .ok (.ireturn, 1) := by decide +kernel
theorem dX12_atFirst_0 : decode cX12_atFirst 0 = .ok (.aload_n 0, 1) := by decide +kernel
theorem dX12_atFirst_1 : decode cX12_atFirst 1 = .ok (.iconst 0, 1) := by decide +kernel
theorem dX12_atFirst_2 : decode cX12_atFirst 2 = .ok (.putfield 229, 3) := by decide +kernel
theorem dX12_atFirst_5 : decode cX12_atFirst 5 = .ok (.aload_n 0, 1) := by decide +kernel
theorem dX12_atFirst_6 : decode cX12_atFirst 6 = .ok (.iconst 1, 1) := by decide +kernel
theorem dX12_atFirst_7 : decode cX12_atFirst 7 = .ok (.putfield 232, 3) := by decide +kernel
theorem dX12_atFirst_10 : decode cX12_atFirst 10 = .ok (.aload_n 0, 1) := by decide +kernel
theorem dX12_atFirst_11 : decode cX12_atFirst 11 = .ok (.getfield 58, 3) := by decide +kernel
theorem dX12_atFirst_14 : decode cX12_atFirst 14 = .ok (.iconst 0, 1) := by decide +kernel
theorem dX12_atFirst_15 : decode cX12_atFirst 15 = .ok (.iconst 0, 1) := by decide +kernel
theorem dX12_atFirst_16 : decode cX12_atFirst 16 = .ok (.iastore, 1) := by decide +kernel
theorem dX12_atFirst_17 : decode cX12_atFirst 17 = .ok (.aload_n 0, 1) := by decide +kernel
theorem dX12_atFirst_18 : decode cX12_atFirst 18 = .ok (.iconst 1, 1) := by decide +kernel
theorem dX12_atFirst_19 : decode cX12_atFirst 19 = .ok (.putfield 235, 3) := by decide +kernel
theorem dX12_atFirst_22 : decode cX12_atFirst 22 = .ok (.aload_n 0, 1) := by decide +kernel
theorem dX12_atFirst_23 : decode cX12_atFirst 23 = .ok (.iconst 0, 1) := by decide +kernel
theorem dX12_atFirst_24 : decode cX12_atFirst 24 = .ok (.putfield 238, 3) := by decide +kernel
theorem dX12_atFirst_27 : decode cX12_atFirst 27 = .ok (.aload_n 0, 1) := by decide +kernel
theorem dX12_atFirst_28 : decode cX12_atFirst 28 = .ok (.iconst 0, 1) := by decide +kernel
theorem dX12_atFirst_29 : decode cX12_atFirst 29 = .ok (.putfield 241, 3) := by decide +kernel
theorem dX12_atFirst_32 : decode cX12_atFirst 32 = .ok (.return_, 1) := by decide +kernel
theorem dX12_doAct_0 : decode cX12_doAct 0 = .ok (.aload_n 0, 1) := by decide +kernel
theorem dX12_doAct_1 : decode cX12_doAct 1 = .ok (.getfield 30, 3) := by decide +kernel
theorem dX12_doAct_4 : decode cX12_doAct 4 = .ok (.iload_n 1, 1) := by decide +kernel
theorem dX12_doAct_5 : decode cX12_doAct 5 = .ok (.iaload, 1) := by decide +kernel
theorem dX12_doAct_6 : decode cX12_doAct 6 = .ok (.iconst 1, 1) := by decide +kernel
theorem dX12_doAct_7 : decode cX12_doAct 7 = .ok (.if_icmp .ne 21, 3) := by decide +kernel
theorem dX12_doAct_10 : decode cX12_doAct 10 = .ok (.aload_n 0, 1) := by decide +kernel
theorem dX12_doAct_11 : decode cX12_doAct 11 = .ok (.getfield 232, 3) := by decide +kernel
theorem dX12_doAct_14 : decode cX12_doAct 14 = .ok (.iconst 1, 1) := by decide +kernel
theorem dX12_doAct_15 : decode cX12_doAct 15 = .ok (.if_icmp .le 13, 3) := by decide +kernel
theorem dX12_doAct_18 : decode cX12_doAct 18 = .ok (.aload_n 0, 1) := by decide +kernel
theorem dX12_doAct_19 : decode cX12_doAct 19 = .ok (.dup, 1) := by decide +kernel
theorem dX12_doAct_20 : decode cX12_doAct 20 = .ok (.getfield 232, 3) := by decide +kernel
theorem dX12_doAct_23 : decode cX12_doAct 23 = .ok (.iconst 1, 1) := by decide +kernel
theorem dX12_doAct_24 : decode cX12_doAct 24 = .ok (.isub, 1) := by decide +kernel
theorem dX12_doAct_25 : decode cX12_doAct 25 = .ok (.putfield 232, 3) := by decide +kernel
theorem dX12_doAct_28 : decode cX12_doAct 28 = .ok (.aload_n 0, 1) := by decide +kernel
theorem dX12_doAct_29 : decode cX12_doAct 29 = .ok (.getfield 30, 3) := by decide +kernel
theorem dX12_doAct_32 : decode cX12_doAct 32 = .ok (.iload_n 1, 1) := by decide +kernel
theorem dX12_doAct_33 : decode cX12_doAct 33 = .ok (.iaload, 1) := by decide +kernel
theorem dX12_doAct_34 : decode cX12_doAct 34 = .ok (.iconst 3, 1) := by decide +kernel
theorem dX12_doAct_35 : decode cX12_doAct 35 = .ok (.if_icmp .ne 20, 3) := by decide +kernel
theorem dX12_doAct_38 : decode cX12_doAct 38 = .ok (.aload_n 0, 1) := by decide +kernel
theorem dX12_doAct_39 : decode cX12_doAct 39 = .ok (.getfield 58, 3) := by decide +kernel
theorem dX12_doAct_42 : decode cX12_doAct 42 = .ok (.aload_n 0, 1) := by decide +kernel
theorem dX12_doAct_43 : decode cX12_doAct 43 = .ok (.getfield 232, 3) := by decide +kernel
theorem dX12_doAct_46 : decode cX12_doAct 46 = .ok (.iconst 1, 1) := by decide +kernel
theorem dX12_doAct_47 : decode cX12_doAct 47 = .ok (.isub, 1) := by decide +kernel
theorem dX12_doAct_48 : decode cX12_doAct 48 = .ok (.aload_n 0, 1) := by decide +kernel
theorem dX12_doAct_49 : decode cX12_doAct 49 = .ok (.getfield 33, 3) := by decide +kernel
theorem dX12_doAct_52 : decode cX12_doAct 52 = .ok (.iload_n 1, 1) := by decide +kernel
theorem dX12_doAct_53 : decode cX12_doAct 53 = .ok (.iaload, 1) := by decide +kernel
theorem dX12_doAct_54 : decode cX12_doAct 54 = .ok (.iastore, 1) := by decide +kernel
theorem dX12_doAct_55 : decode cX12_doAct 55 = .ok (.aload_n 0, 1) := by decide +kernel
theorem dX12_doAct_56 : decode cX12_doAct 56 = .ok (.getfield 30, 3) := by decide +kernel
theorem dX12_doAct_59 : decode cX12_doAct 59 = .ok (.iload_n 1, 1) := by decide +kernel
theorem dX12_doAct_60 : decode cX12_doAct 60 = .ok (.iaload, 1) := by decide +kernel
theorem dX12_doAct_61 : decode cX12_doAct 61 = .ok (.iconst 2, 1) := by decide +kernel
theorem dX12_doAct_62 : decode cX12_doAct 62 = .ok (.if_icmp .eq 4, 3) := by decide +kernel
theorem dX12_doAct_65 : decode cX12_doAct 65 = .ok (.return_, 1) := by decide +kernel
theorem dX12_doAct_66 : decode cX12_doAct 66 = .ok (.aload_n 0, 1) := by decide +kernel
theorem dX12_doAct_67 : decode cX12_doAct 67 = .ok (.getfield 232, 3) := by decide +kernel
theorem dX12_doAct_70 : decode cX12_doAct 70 = .ok (.iconst 5, 1) := by decide +kernel
theorem dX12_doAct_71 : decode cX12_doAct 71 = .ok (.if_icmp .ne 40, 3) := by decide +kernel
theorem dX12_doAct_74 : decode cX12_doAct 74 = .ok (.iconst 1, 1) := by decide +kernel
theorem dX12_doAct_75 : decode cX12_doAct 75 = .ok (.istore_n 2, 1) := by decide +kernel
theorem dX12_doAct_76 : decode cX12_doAct 76 = .ok (.iload_n 2, 1) := by decide +kernel
theorem dX12_doAct_77 : decode cX12_doAct 77 = .ok (.iconst 5, 1) := by decide +kernel
theorem dX12_doAct_78 : decode cX12_doAct 78 = .ok (.if_icmp .ge 23, 3) := by decide +kernel
theorem dX12_doAct_81 : decode cX12_doAct 81 = .ok (.aload_n 0, 1) := by decide +kernel
theorem dX12_doAct_82 : decode cX12_doAct 82 = .ok (.getfield 58, 3) := by decide +kernel
theorem dX12_doAct_85 : decode cX12_doAct 85 = .ok (.iload_n 2, 1) := by decide +kernel
theorem dX12_doAct_86 : decode cX12_doAct 86 = .ok (.iconst 1, 1) := by decide +kernel
theorem dX12_doAct_87 : decode cX12_doAct 87 = .ok (.isub, 1) := by decide +kernel
theorem dX12_doAct_88 : decode cX12_doAct 88 = .ok (.aload_n 0, 1) := by decide +kernel
theorem dX12_doAct_89 : decode cX12_doAct 89 = .ok (.getfield 58, 3) := by decide +kernel
theorem dX12_doAct_92 : decode cX12_doAct 92 = .ok (.iload_n 2, 1) := by decide +kernel
theorem dX12_doAct_93 : decode cX12_doAct 93 = .ok (.iaload, 1) := by decide +kernel
theorem dX12_doAct_94 : decode cX12_doAct 94 = .ok (.iastore, 1) := by decide +kernel
theorem dX12_doAct_95 : decode cX12_doAct 95 = .ok (.iinc 2 1, 3) := by decide +kernel
theorem dX12_doAct_98 : decode cX12_doAct 98 = .ok (.goto (-22), 3) := by decide +kernel
theorem dX12_doAct_101 : decode cX12_doAct 101 = .ok (.aload_n 0, 1) := by decide +kernel
theorem dX12_doAct_102 : decode cX12_doAct 102 = .ok (.dup, 1) := by decide +kernel
theorem dX12_doAct_103 : decode cX12_doAct 103 = .ok (.getfield 232, 3) := by decide +kernel
theorem dX12_doAct_106 : decode cX12_doAct 106 = .ok (.iconst 1, 1) := by decide +kernel
theorem dX12_doAct_107 : decode cX12_doAct 107 = .ok (.isub, 1) := by decide +kernel
theorem dX12_doAct_108 : decode cX12_doAct 108 = .ok (.putfield 232, 3) := by decide +kernel
theorem dX12_doAct_111 : decode cX12_doAct 111 = .ok (.aload_n 0, 1) := by decide +kernel
theorem dX12_doAct_112 : decode cX12_doAct 112 = .ok (.getfield 58, 3) := by decide +kernel
theorem dX12_doAct_115 : decode cX12_doAct 115 = .ok (.aload_n 0, 1) := by decide +kernel
theorem dX12_doAct_116 : decode cX12_doAct 116 = .ok (.getfield 232, 3) := by decide +kernel
theorem dX12_doAct_119 : decode cX12_doAct 119 = .ok (.aload_n 0, 1) := by decide +kernel
theorem dX12_doAct_120 : decode cX12_doAct 120 = .ok (.getfield 33, 3) := by decide +kernel
theorem dX12_doAct_123 : decode cX12_doAct 123 = .ok (.iload_n 1, 1) := by decide +kernel
theorem dX12_doAct_124 : decode cX12_doAct 124 = .ok (.iaload, 1) := by decide +kernel
theorem dX12_doAct_125 : decode cX12_doAct 125 = .ok (.iastore, 1) := by decide +kernel
theorem dX12_doAct_126 : decode cX12_doAct 126 = .ok (.aload_n 0, 1) := by decide +kernel
theorem dX12_doAct_127 : decode cX12_doAct 127 = .ok (.dup, 1) := by decide +kernel
theorem dX12_doAct_128 : decode cX12_doAct 128 = .ok (.getfield 232, 3) := by decide +kernel
theorem dX12_doAct_131 : decode cX12_doAct 131 = .ok (.iconst 1, 1) := by decide +kernel
theorem dX12_doAct_132 : decode cX12_doAct 132 = .ok (.iadd, 1) := by decide +kernel
theorem dX12_doAct_133 : decode cX12_doAct 133 = .ok (.putfield 232, 3) := by decide +kernel
theorem dX12_doAct_136 : decode cX12_doAct 136 = .ok (.aload_n 0, 1) := by decide +kernel
theorem dX12_doAct_137 : decode cX12_doAct 137 = .ok (.aload_n 0, 1) := by decide +kernel
theorem dX12_doAct_138 : decode cX12_doAct 138 = .ok (.getfield 235, 3) := by decide +kernel
theorem dX12_doAct_141 : decode cX12_doAct 141 = .ok (.aload_n 0, 1) := by decide +kernel
theorem dX12_doAct_142 : decode cX12_doAct 142 = .ok (.getfield 232, 3) := by decide +kernel
theorem dX12_doAct_145 : decode cX12_doAct 145 = .ok (.invokestatic 244, 3) := by decide +kernel
theorem dX12_doAct_148 : decode cX12_doAct 148 = .ok (.putfield 235, 3) := by decide +kernel
theorem dX12_doAct_151 : decode cX12_doAct 151 = .ok (.return_, 1) := by decide +kernel
theorem dX12_cutOne_0 : decode cX12_cutOne 0 = .ok (.aload_n 0, 1) := by decide +kernel
theorem dX12_cutOne_1 : decode cX12_cutOne 1 = .ok (.getfield 58, 3) := by decide +kernel
theorem dX12_cutOne_4 : decode cX12_cutOne 4 = .ok (.aload_n 0, 1) := by decide +kernel
theorem dX12_cutOne_5 : decode cX12_cutOne 5 = .ok (.getfield 232, 3) := by decide +kernel
theorem dX12_cutOne_8 : decode cX12_cutOne 8 = .ok (.iconst 1, 1) := by decide +kernel
theorem dX12_cutOne_9 : decode cX12_cutOne 9 = .ok (.isub, 1) := by decide +kernel
theorem dX12_cutOne_10 : decode cX12_cutOne 10 = .ok (.iaload, 1) := by decide +kernel
theorem dX12_cutOne_11 : decode cX12_cutOne 11 = .ok (.istore_n 2, 1) := by decide +kernel
theorem dX12_cutOne_12 : decode cX12_cutOne 12 = .ok (.iconst 0, 1) := by decide +kernel
theorem dX12_cutOne_13 : decode cX12_cutOne 13 = .ok (.istore_n 3, 1) := by decide +kernel
theorem dX12_cutOne_14 : decode cX12_cutOne 14 = .ok (.iconst (-1), 1) := by decide +kernel
theorem dX12_cutOne_15 : decode cX12_cutOne 15 = .ok (.istore 4, 2) := by decide +kernel
theorem dX12_cutOne_17 : decode cX12_cutOne 17 = .ok (.iconst (-1), 1) := by decide +kernel
theorem dX12_cutOne_18 : decode cX12_cutOne 18 = .ok (.istore 5, 2) := by decide +kernel
theorem dX12_cutOne_20 : decode cX12_cutOne 20 = .ok (.aload_n 0, 1) := by decide +kernel
theorem dX12_cutOne_21 : decode cX12_cutOne 21 = .ok (.getfield 229, 3) := by decide +kernel
theorem dX12_cutOne_24 : decode cX12_cutOne 24 = .ok (.istore 6, 2) := by decide +kernel
theorem dX12_cutOne_26 : decode cX12_cutOne 26 = .ok (.iconst 0, 1) := by decide +kernel
theorem dX12_cutOne_27 : decode cX12_cutOne 27 = .ok (.istore 7, 2) := by decide +kernel
theorem dX12_cutOne_29 : decode cX12_cutOne 29 = .ok (.iconst 0, 1) := by decide +kernel
theorem dX12_cutOne_30 : decode cX12_cutOne 30 = .ok (.istore 8, 2) := by decide +kernel
theorem dX12_cutOne_32 : decode cX12_cutOne 32 = .ok (.iload 6, 2) := by decide +kernel
theorem dX12_cutOne_34 : decode cX12_cutOne 34 = .ok (.aload_n 0, 1) := by decide +kernel
theorem dX12_cutOne_35 : decode cX12_cutOne 35 = .ok (.getfield 9, 3) := by decide +kernel
theorem dX12_cutOne_38 : decode cX12_cutOne 38 = .ok (.bipush 81, 2) := by decide +kernel
theorem dX12_cutOne_40 : decode cX12_cutOne 40 = .ok (.iaload, 1) := by decide +kernel
theorem dX12_cutOne_41 : decode cX12_cutOne 41 = .ok (.if_icmp .ge 149, 3) := by decide +kernel
theorem dX12_cutOne_44 : decode cX12_cutOne 44 = .ok (.iload 8, 2) := by decide +kernel
theorem dX12_cutOne_46 : decode cX12_cutOne 46 = .ok (.ifCond .ne 144, 3) := by decide +kernel
theorem dX12_cutOne_49 : decode cX12_cutOne 49 = .ok (.aload_n 0, 1) := by decide +kernel
theorem dX12_cutOne_50 : decode cX12_cutOne 50 = .ok (.iload_n 2, 1) := by decide +kernel
theorem dX12_cutOne_51 : decode cX12_cutOne 51 = .ok (.iload_n 3, 1) := by decide +kernel
theorem dX12_cutOne_52 : decode cX12_cutOne 52 = .ok (.iload 6, 2) := by decide +kernel
theorem dX12_cutOne_54 : decode cX12_cutOne 54 = .ok (.aload_n 0, 1) := by decide +kernel
theorem dX12_cutOne_55 : decode cX12_cutOne 55 = .ok (.getfield 229, 3) := by decide +kernel
theorem dX12_cutOne_58 : decode cX12_cutOne 58 = .ok (.if_icmp .ne 7, 3) := by decide +kernel
theorem dX12_cutOne_61 : decode cX12_cutOne 61 = .ok (.iconst 1, 1) := by decide +kernel
theorem dX12_cutOne_62 : decode cX12_cutOne 62 = .ok (.goto 4, 3) := by decide +kernel
theorem dX12_cutOne_65 : decode cX12_cutOne 65 = .ok (.iconst 0, 1) := by decide +kernel
theorem dX12_cutOne_66 : decode cX12_cutOne 66 = .ok (.aload_n 0, 1) := by decide +kernel
theorem dX12_cutOne_67 : decode cX12_cutOne 67 = .ok (.getfield 9, 3) := by decide +kernel
theorem dX12_cutOne_70 : decode cX12_cutOne 70 = .ok (.bipush 82, 2) := by decide +kernel
theorem dX12_cutOne_72 : decode cX12_cutOne 72 = .ok (.iload 6, 2) := by decide +kernel
theorem dX12_cutOne_74 : decode cX12_cutOne 74 = .ok (.iadd, 1) := by decide +kernel
theorem dX12_cutOne_75 : decode cX12_cutOne 75 = .ok (.iaload, 1) := by decide +kernel
theorem dX12_cutOne_76 : decode cX12_cutOne 76 = .ok (.invokevirtual 250, 3) := by decide +kernel
theorem dX12_cutOne_79 : decode cX12_cutOne 79 = .ok (.istore_n 3, 1) := by decide +kernel
theorem dX12_cutOne_80 : decode cX12_cutOne 80 = .ok (.iinc 6 1, 3) := by decide +kernel
theorem dX12_cutOne_83 : decode cX12_cutOne 83 = .ok (.aload_n 0, 1) := by decide +kernel
theorem dX12_cutOne_84 : decode cX12_cutOne 84 = .ok (.dup, 1) := by decide +kernel
theorem dX12_cutOne_85 : decode cX12_cutOne 85 = .ok (.getfield 241, 3) := by decide +kernel
theorem dX12_cutOne_88 : decode cX12_cutOne 88 = .ok (.iconst 1, 1) := by decide +kernel
theorem dX12_cutOne_89 : decode cX12_cutOne 89 = .ok (.iadd, 1) := by decide +kernel
theorem dX12_cutOne_90 : decode cX12_cutOne 90 = .ok (.putfield 241, 3) := by decide +kernel
theorem dX12_cutOne_93 : decode cX12_cutOne 93 = .ok (.iload_n 3, 1) := by decide +kernel
theorem dX12_cutOne_94 : decode cX12_cutOne 94 = .ok (.ifCond .ne 7, 3) := by decide +kernel
theorem dX12_cutOne_97 : decode cX12_cutOne 97 = .ok (.iconst 1, 1) := by decide +kernel
theorem dX12_cutOne_98 : decode cX12_cutOne 98 = .ok (.goto 4, 3) := by decide +kernel
theorem dX12_cutOne_101 : decode cX12_cutOne 101 = .ok (.iconst 0, 1) := by decide +kernel
theorem dX12_cutOne_102 : decode cX12_cutOne 102 = .ok (.istore 8, 2) := by decide +kernel
theorem dX12_cutOne_104 : decode cX12_cutOne 104 = .ok (.iload 8, 2) := by decide +kernel
theorem dX12_cutOne_106 : decode cX12_cutOne 106 = .ok (.ifCond .eq 6, 3) := by decide +kernel
theorem dX12_cutOne_109 : decode cX12_cutOne 109 = .ok (.goto (-77), 3) := by decide +kernel
theorem dX12_cutOne_112 : decode cX12_cutOne 112 = .ok (.iload_n 2, 1) := by decide +kernel
theorem dX12_cutOne_113 : decode cX12_cutOne 113 = .ok (.iload_n 3, 1) := by decide +kernel
theorem dX12_cutOne_114 : decode cX12_cutOne 114 = .ok (.iload 6, 2) := by decide +kernel
theorem dX12_cutOne_116 : decode cX12_cutOne 116 = .ok (.invokestatic 254, 3) := by decide +kernel
theorem dX12_cutOne_119 : decode cX12_cutOne 119 = .ok (.istore 9, 2) := by decide +kernel
theorem dX12_cutOne_121 : decode cX12_cutOne 121 = .ok (.aload_n 0, 1) := by decide +kernel
theorem dX12_cutOne_122 : decode cX12_cutOne 122 = .ok (.getfield 65, 3) := by decide +kernel
theorem dX12_cutOne_125 : decode cX12_cutOne 125 = .ok (.iload 9, 2) := by decide +kernel
theorem dX12_cutOne_127 : decode cX12_cutOne 127 = .ok (.dup2, 1) := by decide +kernel
theorem dX12_cutOne_128 : decode cX12_cutOne 128 = .ok (.iaload, 1) := by decide +kernel
theorem dX12_cutOne_129 : decode cX12_cutOne 129 = .ok (.iconst 1, 1) := by decide +kernel
theorem dX12_cutOne_130 : decode cX12_cutOne 130 = .ok (.iadd, 1) := by decide +kernel
theorem dX12_cutOne_131 : decode cX12_cutOne 131 = .ok (.iastore, 1) := by decide +kernel
theorem dX12_cutOne_132 : decode cX12_cutOne 132 = .ok (.aload_n 0, 1) := by decide +kernel
theorem dX12_cutOne_133 : decode cX12_cutOne 133 = .ok (.iload_n 2, 1) := by decide +kernel
theorem dX12_cutOne_134 : decode cX12_cutOne 134 = .ok (.iload_n 3, 1) := by decide +kernel
theorem dX12_cutOne_135 : decode cX12_cutOne 135 = .ok (.invokevirtual 258, 3) := by decide +kernel
theorem dX12_cutOne_138 : decode cX12_cutOne 138 = .ok (.istore 10, 2) := by decide +kernel
theorem dX12_cutOne_140 : decode cX12_cutOne 140 = .ok (.iload 10, 2) := by decide +kernel
theorem dX12_cutOne_142 : decode cX12_cutOne 142 = .ok (.iconst (-1), 1) := by decide +kernel
theorem dX12_cutOne_143 : decode cX12_cutOne 143 = .ok (.if_icmp .eq 11, 3) := by decide +kernel
theorem dX12_cutOne_146 : decode cX12_cutOne 146 = .ok (.iload 6, 2) := by decide +kernel
theorem dX12_cutOne_148 : decode cX12_cutOne 148 = .ok (.istore 4, 2) := by decide +kernel
theorem dX12_cutOne_150 : decode cX12_cutOne 150 = .ok (.iload 10, 2) := by decide +kernel
theorem dX12_cutOne_152 : decode cX12_cutOne 152 = .ok (.istore 5, 2) := by decide +kernel
theorem dX12_cutOne_154 : decode cX12_cutOne 154 = .ok (.iload_n 1, 1) := by decide +kernel
theorem dX12_cutOne_155 : decode cX12_cutOne 155 = .ok (.ifCond .eq 17, 3) := by decide +kernel
theorem dX12_cutOne_158 : decode cX12_cutOne 158 = .ok (.aload_n 0, 1) := by decide +kernel
theorem dX12_cutOne_159 : decode cX12_cutOne 159 = .ok (.getfield 68, 3) := by decide +kernel
theorem dX12_cutOne_162 : decode cX12_cutOne 162 = .ok (.iload 9, 2) := by decide +kernel
theorem dX12_cutOne_164 : decode cX12_cutOne 164 = .ok (.baload, 1) := by decide +kernel
theorem dX12_cutOne_165 : decode cX12_cutOne 165 = .ok (.ifCond .eq 7, 3) := by decide +kernel
theorem dX12_cutOne_168 : decode cX12_cutOne 168 = .ok (.iconst 1, 1) := by decide +kernel
theorem dX12_cutOne_169 : decode cX12_cutOne 169 = .ok (.goto 4, 3) := by decide +kernel
theorem dX12_cutOne_172 : decode cX12_cutOne 172 = .ok (.iconst 0, 1) := by decide +kernel
theorem dX12_cutOne_173 : decode cX12_cutOne 173 = .ok (.istore 8, 2) := by decide +kernel
theorem dX12_cutOne_175 : decode cX12_cutOne 175 = .ok (.aload_n 0, 1) := by decide +kernel
theorem dX12_cutOne_176 : decode cX12_cutOne 176 = .ok (.getfield 71, 3) := by decide +kernel
theorem dX12_cutOne_179 : decode cX12_cutOne 179 = .ok (.iload 7, 2) := by decide +kernel
theorem dX12_cutOne_181 : decode cX12_cutOne 181 = .ok (.iinc 7 1, 3) := by decide +kernel
theorem dX12_cutOne_184 : decode cX12_cutOne 184 = .ok (.iload 9, 2) := by decide +kernel
theorem dX12_cutOne_186 : decode cX12_cutOne 186 = .ok (.iastore, 1) := by decide +kernel
theorem dX12_cutOne_187 : decode cX12_cutOne 187 = .ok (.goto (-155), 3) := by decide +kernel
theorem dX12_cutOne_190 : decode cX12_cutOne 190 = .ok (.iload_n 1, 1) := by decide +kernel
theorem dX12_cutOne_191 : decode cX12_cutOne 191 = .ok (.ifCond .eq 59, 3) := by decide +kernel
theorem dX12_cutOne_194 : decode cX12_cutOne 194 = .ok (.iconst 0, 1) := by decide +kernel
theorem dX12_cutOne_195 : decode cX12_cutOne 195 = .ok (.istore 9, 2) := by decide +kernel
theorem dX12_cutOne_197 : decode cX12_cutOne 197 = .ok (.iload 9, 2) := by decide +kernel
theorem dX12_cutOne_199 : decode cX12_cutOne 199 = .ok (.iload 7, 2) := by decide +kernel
theorem dX12_cutOne_201 : decode cX12_cutOne 201 = .ok (.if_icmp .ge 49, 3) := by decide +kernel
theorem dX12_cutOne_204 : decode cX12_cutOne 204 = .ok (.aload_n 0, 1) := by decide +kernel
theorem dX12_cutOne_205 : decode cX12_cutOne 205 = .ok (.getfield 229, 3) := by decide +kernel
theorem dX12_cutOne_208 : decode cX12_cutOne 208 = .ok (.iconst 1, 1) := by decide +kernel
theorem dX12_cutOne_209 : decode cX12_cutOne 209 = .ok (.iadd, 1) := by decide +kernel
theorem dX12_cutOne_210 : decode cX12_cutOne 210 = .ok (.iload 9, 2) := by decide +kernel
theorem dX12_cutOne_212 : decode cX12_cutOne 212 = .ok (.iadd, 1) := by decide +kernel
theorem dX12_cutOne_213 : decode cX12_cutOne 213 = .ok (.iload 4, 2) := by decide +kernel
theorem dX12_cutOne_215 : decode cX12_cutOne 215 = .ok (.iconst (-1), 1) := by decide +kernel
theorem dX12_cutOne_216 : decode cX12_cutOne 216 = .ok (.if_icmp .ne 10, 3) := by decide +kernel
theorem dX12_cutOne_219 : decode cX12_cutOne 219 = .ok (.aload_n 0, 1) := by decide +kernel
theorem dX12_cutOne_220 : decode cX12_cutOne 220 = .ok (.getfield 229, 3) := by decide +kernel
theorem dX12_cutOne_223 : decode cX12_cutOne 223 = .ok (.goto 5, 3) := by decide +kernel
theorem dX12_cutOne_226 : decode cX12_cutOne 226 = .ok (.iload 4, 2) := by decide +kernel
theorem dX12_cutOne_228 : decode cX12_cutOne 228 = .ok (.if_icmp .le 16, 3) := by decide +kernel
theorem dX12_cutOne_231 : decode cX12_cutOne 231 = .ok (.aload_n 0, 1) := by decide +kernel
theorem dX12_cutOne_232 : decode cX12_cutOne 232 = .ok (.getfield 68, 3) := by decide +kernel
theorem dX12_cutOne_235 : decode cX12_cutOne 235 = .ok (.aload_n 0, 1) := by decide +kernel
theorem dX12_cutOne_236 : decode cX12_cutOne 236 = .ok (.getfield 71, 3) := by decide +kernel
theorem dX12_cutOne_239 : decode cX12_cutOne 239 = .ok (.iload 9, 2) := by decide +kernel
theorem dX12_cutOne_241 : decode cX12_cutOne 241 = .ok (.iaload, 1) := by decide +kernel
theorem dX12_cutOne_242 : decode cX12_cutOne 242 = .ok (.iconst 1, 1) := by decide +kernel
theorem dX12_cutOne_243 : decode cX12_cutOne 243 = .ok (.bastore, 1) := by decide +kernel
theorem dX12_cutOne_244 : decode cX12_cutOne 244 = .ok (.iinc 9 1, 3) := by decide +kernel
theorem dX12_cutOne_247 : decode cX12_cutOne 247 = .ok (.goto (-50), 3) := by decide +kernel
theorem dX12_cutOne_250 : decode cX12_cutOne 250 = .ok (.bipush 12, 2) := by decide +kernel
theorem dX12_cutOne_252 : decode cX12_cutOne 252 = .ok (.aload_n 0, 1) := by decide +kernel
theorem dX12_cutOne_253 : decode cX12_cutOne 253 = .ok (.getfield 238, 3) := by decide +kernel
theorem dX12_cutOne_256 : decode cX12_cutOne 256 = .ok (.imul, 1) := by decide +kernel
theorem dX12_cutOne_257 : decode cX12_cutOne 257 = .ok (.istore 9, 2) := by decide +kernel
theorem dX12_cutOne_259 : decode cX12_cutOne 259 = .ok (.aload_n 0, 1) := by decide +kernel
theorem dX12_cutOne_260 : decode cX12_cutOne 260 = .ok (.getfield 61, 3) := by decide +kernel
theorem dX12_cutOne_263 : decode cX12_cutOne 263 = .ok (.iload 9, 2) := by decide +kernel
theorem dX12_cutOne_265 : decode cX12_cutOne 265 = .ok (.iconst 0, 1) := by decide +kernel
theorem dX12_cutOne_266 : decode cX12_cutOne 266 = .ok (.iadd, 1) := by decide +kernel
theorem dX12_cutOne_267 : decode cX12_cutOne 267 = .ok (.iload 5, 2) := by decide +kernel
theorem dX12_cutOne_269 : decode cX12_cutOne 269 = .ok (.iastore, 1) := by decide +kernel
theorem dX12_cutOne_270 : decode cX12_cutOne 270 = .ok (.aload_n 0, 1) := by decide +kernel
theorem dX12_cutOne_271 : decode cX12_cutOne 271 = .ok (.getfield 61, 3) := by decide +kernel
theorem dX12_cutOne_274 : decode cX12_cutOne 274 = .ok (.iload 9, 2) := by decide +kernel
theorem dX12_cutOne_276 : decode cX12_cutOne 276 = .ok (.iconst 1, 1) := by decide +kernel
theorem dX12_cutOne_277 : decode cX12_cutOne 277 = .ok (.iadd, 1) := by decide +kernel
theorem dX12_cutOne_278 : decode cX12_cutOne 278 = .ok (.aload_n 0, 1) := by decide +kernel
theorem dX12_cutOne_279 : decode cX12_cutOne 279 = .ok (.getfield 229, 3) := by decide +kernel
theorem dX12_cutOne_282 : decode cX12_cutOne 282 = .ok (.iastore, 1) := by decide +kernel
theorem dX12_cutOne_283 : decode cX12_cutOne 283 = .ok (.aload_n 0, 1) := by decide +kernel
theorem dX12_cutOne_284 : decode cX12_cutOne 284 = .ok (.getfield 61, 3) := by decide +kernel
theorem dX12_cutOne_287 : decode cX12_cutOne 287 = .ok (.iload 9, 2) := by decide +kernel
theorem dX12_cutOne_289 : decode cX12_cutOne 289 = .ok (.iconst 2, 1) := by decide +kernel
theorem dX12_cutOne_290 : decode cX12_cutOne 290 = .ok (.iadd, 1) := by decide +kernel
theorem dX12_cutOne_291 : decode cX12_cutOne 291 = .ok (.iload 4, 2) := by decide +kernel
theorem dX12_cutOne_293 : decode cX12_cutOne 293 = .ok (.iconst (-1), 1) := by decide +kernel
theorem dX12_cutOne_294 : decode cX12_cutOne 294 = .ok (.if_icmp .ne 12, 3) := by decide +kernel
theorem dX12_cutOne_297 : decode cX12_cutOne 297 = .ok (.aload_n 0, 1) := by decide +kernel
theorem dX12_cutOne_298 : decode cX12_cutOne 298 = .ok (.getfield 229, 3) := by decide +kernel
theorem dX12_cutOne_301 : decode cX12_cutOne 301 = .ok (.iconst 1, 1) := by decide +kernel
theorem dX12_cutOne_302 : decode cX12_cutOne 302 = .ok (.iadd, 1) := by decide +kernel
theorem dX12_cutOne_303 : decode cX12_cutOne 303 = .ok (.goto 5, 3) := by decide +kernel
theorem dX12_cutOne_306 : decode cX12_cutOne 306 = .ok (.iload 4, 2) := by decide +kernel
theorem dX12_cutOne_308 : decode cX12_cutOne 308 = .ok (.iastore, 1) := by decide +kernel
theorem dX12_cutOne_309 : decode cX12_cutOne 309 = .ok (.aload_n 0, 1) := by decide +kernel
theorem dX12_cutOne_310 : decode cX12_cutOne 310 = .ok (.getfield 61, 3) := by decide +kernel
theorem dX12_cutOne_313 : decode cX12_cutOne 313 = .ok (.iload 9, 2) := by decide +kernel
theorem dX12_cutOne_315 : decode cX12_cutOne 315 = .ok (.iconst 3, 1) := by decide +kernel
theorem dX12_cutOne_316 : decode cX12_cutOne 316 = .ok (.iadd, 1) := by decide +kernel
theorem dX12_cutOne_317 : decode cX12_cutOne 317 = .ok (.iload_n 3, 1) := by decide +kernel
theorem dX12_cutOne_318 : decode cX12_cutOne 318 = .ok (.ifCond .eq 10, 3) := by decide +kernel
theorem dX12_cutOne_321 : decode cX12_cutOne 321 = .ok (.iload 6, 2) := by decide +kernel
theorem dX12_cutOne_323 : decode cX12_cutOne 323 = .ok (.iconst 1, 1) := by decide +kernel
theorem dX12_cutOne_324 : decode cX12_cutOne 324 = .ok (.iadd, 1) := by decide +kernel
theorem dX12_cutOne_325 : decode cX12_cutOne 325 = .ok (.goto 5, 3) := by decide +kernel
theorem dX12_cutOne_328 : decode cX12_cutOne 328 = .ok (.iload 6, 2) := by decide +kernel
theorem dX12_cutOne_330 : decode cX12_cutOne 330 = .ok (.iastore, 1) := by decide +kernel
theorem dX12_cutOne_331 : decode cX12_cutOne 331 = .ok (.aload_n 0, 1) := by decide +kernel
theorem dX12_cutOne_332 : decode cX12_cutOne 332 = .ok (.getfield 61, 3) := by decide +kernel
theorem dX12_cutOne_335 : decode cX12_cutOne 335 = .ok (.iload 9, 2) := by decide +kernel
theorem dX12_cutOne_337 : decode cX12_cutOne 337 = .ok (.iconst 4, 1) := by decide +kernel
theorem dX12_cutOne_338 : decode cX12_cutOne 338 = .ok (.iadd, 1) := by decide +kernel
theorem dX12_cutOne_339 : decode cX12_cutOne 339 = .ok (.iload_n 2, 1) := by decide +kernel
theorem dX12_cutOne_340 : decode cX12_cutOne 340 = .ok (.iastore, 1) := by decide +kernel
theorem dX12_cutOne_341 : decode cX12_cutOne 341 = .ok (.aload_n 0, 1) := by decide +kernel
theorem dX12_cutOne_342 : decode cX12_cutOne 342 = .ok (.getfield 61, 3) := by decide +kernel
theorem dX12_cutOne_345 : decode cX12_cutOne 345 = .ok (.iload 9, 2) := by decide +kernel
theorem dX12_cutOne_347 : decode cX12_cutOne 347 = .ok (.bipush 6, 2) := by decide +kernel
theorem dX12_cutOne_349 : decode cX12_cutOne 349 = .ok (.iadd, 1) := by decide +kernel
theorem dX12_cutOne_350 : decode cX12_cutOne 350 = .ok (.iload_n 3, 1) := by decide +kernel
theorem dX12_cutOne_351 : decode cX12_cutOne 351 = .ok (.ifCond .ne 10, 3) := by decide +kernel
theorem dX12_cutOne_354 : decode cX12_cutOne 354 = .ok (.iload 6, 2) := by decide +kernel
theorem dX12_cutOne_356 : decode cX12_cutOne 356 = .ok (.iconst 1, 1) := by decide +kernel
theorem dX12_cutOne_357 : decode cX12_cutOne 357 = .ok (.isub, 1) := by decide +kernel
theorem dX12_cutOne_358 : decode cX12_cutOne 358 = .ok (.goto 4, 3) := by decide +kernel
theorem dX12_cutOne_361 : decode cX12_cutOne 361 = .ok (.iconst (-1), 1) := by decide +kernel
theorem dX12_cutOne_362 : decode cX12_cutOne 362 = .ok (.iastore, 1) := by decide +kernel
theorem dX12_cutOne_363 : decode cX12_cutOne 363 = .ok (.aload_n 0, 1) := by decide +kernel
theorem dX12_cutOne_364 : decode cX12_cutOne 364 = .ok (.aload_n 0, 1) := by decide +kernel
theorem dX12_cutOne_365 : decode cX12_cutOne 365 = .ok (.getfield 61, 3) := by decide +kernel
theorem dX12_cutOne_368 : decode cX12_cutOne 368 = .ok (.iload 9, 2) := by decide +kernel
theorem dX12_cutOne_370 : decode cX12_cutOne 370 = .ok (.iconst 2, 1) := by decide +kernel
theorem dX12_cutOne_371 : decode cX12_cutOne 371 = .ok (.iadd, 1) := by decide +kernel
theorem dX12_cutOne_372 : decode cX12_cutOne 372 = .ok (.iaload, 1) := by decide +kernel
theorem dX12_cutOne_373 : decode cX12_cutOne 373 = .ok (.putfield 229, 3) := by decide +kernel
theorem dX12_cutOne_376 : decode cX12_cutOne 376 = .ok (.iload 5, 2) := by decide +kernel
theorem dX12_cutOne_378 : decode cX12_cutOne 378 = .ok (.iconst (-1), 1) := by decide +kernel
theorem dX12_cutOne_379 : decode cX12_cutOne 379 = .ok (.if_icmp .eq 9, 3) := by decide +kernel
theorem dX12_cutOne_382 : decode cX12_cutOne 382 = .ok (.aload_n 0, 1) := by decide +kernel
theorem dX12_cutOne_383 : decode cX12_cutOne 383 = .ok (.iload 5, 2) := by decide +kernel
theorem dX12_cutOne_385 : decode cX12_cutOne 385 = .ok (.invokevirtual 261, 3) := by decide +kernel
theorem dX12_cutOne_388 : decode cX12_cutOne 388 = .ok (.aload_n 0, 1) := by decide +kernel
theorem dX12_cutOne_389 : decode cX12_cutOne 389 = .ok (.getfield 61, 3) := by decide +kernel
theorem dX12_cutOne_392 : decode cX12_cutOne 392 = .ok (.iload 9, 2) := by decide +kernel
theorem dX12_cutOne_394 : decode cX12_cutOne 394 = .ok (.iconst 5, 1) := by decide +kernel
theorem dX12_cutOne_395 : decode cX12_cutOne 395 = .ok (.iadd, 1) := by decide +kernel
theorem dX12_cutOne_396 : decode cX12_cutOne 396 = .ok (.aload_n 0, 1) := by decide +kernel
theorem dX12_cutOne_397 : decode cX12_cutOne 397 = .ok (.getfield 232, 3) := by decide +kernel
theorem dX12_cutOne_400 : decode cX12_cutOne 400 = .ok (.iastore, 1) := by decide +kernel
theorem dX12_cutOne_401 : decode cX12_cutOne 401 = .ok (.iconst 0, 1) := by decide +kernel
theorem dX12_cutOne_402 : decode cX12_cutOne 402 = .ok (.istore 10, 2) := by decide +kernel
theorem dX12_cutOne_404 : decode cX12_cutOne 404 = .ok (.iload 10, 2) := by decide +kernel
theorem dX12_cutOne_406 : decode cX12_cutOne 406 = .ok (.iconst 5, 1) := by decide +kernel
theorem dX12_cutOne_407 : decode cX12_cutOne 407 = .ok (.if_icmp .ge 42, 3) := by decide +kernel
theorem dX12_cutOne_410 : decode cX12_cutOne 410 = .ok (.aload_n 0, 1) := by decide +kernel
theorem dX12_cutOne_411 : decode cX12_cutOne 411 = .ok (.getfield 61, 3) := by decide +kernel
theorem dX12_cutOne_414 : decode cX12_cutOne 414 = .ok (.iload 9, 2) := by decide +kernel
theorem dX12_cutOne_416 : decode cX12_cutOne 416 = .ok (.bipush 7, 2) := by decide +kernel
theorem dX12_cutOne_418 : decode cX12_cutOne 418 = .ok (.iadd, 1) := by decide +kernel
theorem dX12_cutOne_419 : decode cX12_cutOne 419 = .ok (.iload 10, 2) := by decide +kernel
theorem dX12_cutOne_421 : decode cX12_cutOne 421 = .ok (.iadd, 1) := by decide +kernel
theorem dX12_cutOne_422 : decode cX12_cutOne 422 = .ok (.iload 10, 2) := by decide +kernel
theorem dX12_cutOne_424 : decode cX12_cutOne 424 = .ok (.aload_n 0, 1) := by decide +kernel
theorem dX12_cutOne_425 : decode cX12_cutOne 425 = .ok (.getfield 232, 3) := by decide +kernel
theorem dX12_cutOne_428 : decode cX12_cutOne 428 = .ok (.if_icmp .ge 13, 3) := by decide +kernel
theorem dX12_cutOne_431 : decode cX12_cutOne 431 = .ok (.aload_n 0, 1) := by decide +kernel
theorem dX12_cutOne_432 : decode cX12_cutOne 432 = .ok (.getfield 58, 3) := by decide +kernel
theorem dX12_cutOne_435 : decode cX12_cutOne 435 = .ok (.iload 10, 2) := by decide +kernel
theorem dX12_cutOne_437 : decode cX12_cutOne 437 = .ok (.iaload, 1) := by decide +kernel
theorem dX12_cutOne_438 : decode cX12_cutOne 438 = .ok (.goto 4, 3) := by decide +kernel
theorem dX12_cutOne_441 : decode cX12_cutOne 441 = .ok (.iconst (-1), 1) := by decide +kernel
theorem dX12_cutOne_442 : decode cX12_cutOne 442 = .ok (.iastore, 1) := by decide +kernel
theorem dX12_cutOne_443 : decode cX12_cutOne 443 = .ok (.iinc 10 1, 3) := by decide +kernel
theorem dX12_cutOne_446 : decode cX12_cutOne 446 = .ok (.goto (-42), 3) := by decide +kernel
theorem dX12_cutOne_449 : decode cX12_cutOne 449 = .ok (.aload_n 0, 1) := by decide +kernel
theorem dX12_cutOne_450 : decode cX12_cutOne 450 = .ok (.dup, 1) := by decide +kernel
theorem dX12_cutOne_451 : decode cX12_cutOne 451 = .ok (.getfield 238, 3) := by decide +kernel
theorem dX12_cutOne_454 : decode cX12_cutOne 454 = .ok (.iconst 1, 1) := by decide +kernel
theorem dX12_cutOne_455 : decode cX12_cutOne 455 = .ok (.iadd, 1) := by decide +kernel
theorem dX12_cutOne_456 : decode cX12_cutOne 456 = .ok (.putfield 238, 3) := by decide +kernel
theorem dX12_cutOne_459 : decode cX12_cutOne 459 = .ok (.return_, 1) := by decide +kernel
theorem dX12_forget_0 : decode cX12_forget 0 = .ok (.iconst 0, 1) := by decide +kernel
theorem dX12_forget_1 : decode cX12_forget 1 = .ok (.istore_n 1, 1) := by decide +kernel
theorem dX12_forget_2 : decode cX12_forget 2 = .ok (.iload_n 1, 1) := by decide +kernel
theorem dX12_forget_3 : decode cX12_forget 3 = .ok (.ldc 64, 2) := by decide +kernel
theorem dX12_forget_5 : decode cX12_forget 5 = .ok (.if_icmp .ge 23, 3) := by decide +kernel
theorem dX12_forget_8 : decode cX12_forget 8 = .ok (.aload_n 0, 1) := by decide +kernel
theorem dX12_forget_9 : decode cX12_forget 9 = .ok (.getfield 65, 3) := by decide +kernel
theorem dX12_forget_12 : decode cX12_forget 12 = .ok (.iload_n 1, 1) := by decide +kernel
theorem dX12_forget_13 : decode cX12_forget 13 = .ok (.iconst 0, 1) := by decide +kernel
theorem dX12_forget_14 : decode cX12_forget 14 = .ok (.iastore, 1) := by decide +kernel
theorem dX12_forget_15 : decode cX12_forget 15 = .ok (.aload_n 0, 1) := by decide +kernel
theorem dX12_forget_16 : decode cX12_forget 16 = .ok (.getfield 68, 3) := by decide +kernel
theorem dX12_forget_19 : decode cX12_forget 19 = .ok (.iload_n 1, 1) := by decide +kernel
theorem dX12_forget_20 : decode cX12_forget 20 = .ok (.iconst 0, 1) := by decide +kernel
theorem dX12_forget_21 : decode cX12_forget 21 = .ok (.bastore, 1) := by decide +kernel
theorem dX12_forget_22 : decode cX12_forget 22 = .ok (.iinc 1 1, 3) := by decide +kernel
theorem dX12_forget_25 : decode cX12_forget 25 = .ok (.goto (-23), 3) := by decide +kernel
theorem dX12_forget_28 : decode cX12_forget 28 = .ok (.return_, 1) := by decide +kernel
theorem dX12_cutAll_0 : decode cX12_cutAll 0 = .ok (.aload_n 0, 1) := by decide +kernel
theorem dX12_cutAll_1 : decode cX12_cutAll 1 = .ok (.invokevirtual 264, 3) := by decide +kernel
theorem dX12_cutAll_4 : decode cX12_cutAll 4 = .ok (.iload_n 1, 1) := by decide +kernel
theorem dX12_cutAll_5 : decode cX12_cutAll 5 = .ok (.ifCond .eq 7, 3) := by decide +kernel
theorem dX12_cutAll_8 : decode cX12_cutAll 8 = .ok (.aload_n 0, 1) := by decide +kernel
theorem dX12_cutAll_9 : decode cX12_cutAll 9 = .ok (.invokevirtual 267, 3) := by decide +kernel
theorem dX12_cutAll_12 : decode cX12_cutAll 12 = .ok (.aload_n 0, 1) := by decide +kernel
theorem dX12_cutAll_13 : decode cX12_cutAll 13 = .ok (.getfield 229, 3) := by decide +kernel
theorem dX12_cutAll_16 : decode cX12_cutAll 16 = .ok (.aload_n 0, 1) := by decide +kernel
theorem dX12_cutAll_17 : decode cX12_cutAll 17 = .ok (.getfield 9, 3) := by decide +kernel
theorem dX12_cutAll_20 : decode cX12_cutAll 20 = .ok (.bipush 81, 2) := by decide +kernel
theorem dX12_cutAll_22 : decode cX12_cutAll 22 = .ok (.iaload, 1) := by decide +kernel
theorem dX12_cutAll_23 : decode cX12_cutAll 23 = .ok (.if_icmp .ge 11, 3) := by decide +kernel
theorem dX12_cutAll_26 : decode cX12_cutAll 26 = .ok (.aload_n 0, 1) := by decide +kernel
theorem dX12_cutAll_27 : decode cX12_cutAll 27 = .ok (.iload_n 1, 1) := by decide +kernel
theorem dX12_cutAll_28 : decode cX12_cutAll 28 = .ok (.invokevirtual 270, 3) := by decide +kernel
theorem dX12_cutAll_31 : decode cX12_cutAll 31 = .ok (.goto (-19), 3) := by decide +kernel
theorem dX12_cutAll_34 : decode cX12_cutAll 34 = .ok (.return_, 1) := by decide +kernel
theorem dX12_of_0 : decode cX12_of 0 = .ok (.aload_n 0, 1) := by decide +kernel
theorem dX12_of_1 : decode cX12_of 1 = .ok (.getfield 61, 3) := by decide +kernel
theorem dX12_of_4 : decode cX12_of 4 = .ok (.bipush 12, 2) := by decide +kernel
theorem dX12_of_6 : decode cX12_of 6 = .ok (.iload_n 1, 1) := by decide +kernel
theorem dX12_of_7 : decode cX12_of 7 = .ok (.imul, 1) := by decide +kernel
theorem dX12_of_8 : decode cX12_of 8 = .ok (.iload_n 2, 1) := by decide +kernel
theorem dX12_of_9 : decode cX12_of 9 = .ok (.iadd, 1) := by decide +kernel
theorem dX12_of_10 : decode cX12_of 10 = .ok (.iaload, 1) := by decide +kernel
theorem dX12_of_11 : decode cX12_of 11 = .ok (.ireturn, 1) := by decide +kernel
theorem dX12_cut_0 : decode cX12_cut 0 = .ok (.aload_n 0, 1) := by decide +kernel
theorem dX12_cut_1 : decode cX12_cut 1 = .ok (.iconst 0, 1) := by decide +kernel
theorem dX12_cut_2 : decode cX12_cut 2 = .ok (.putfield 123, 3) := by decide +kernel
theorem dX12_cut_5 : decode cX12_cut 5 = .ok (.aload_n 0, 1) := by decide +kernel
theorem dX12_cut_6 : decode cX12_cut 6 = .ok (.iconst 0, 1) := by decide +kernel
theorem dX12_cut_7 : decode cX12_cut 7 = .ok (.invokevirtual 274, 3) := by decide +kernel
theorem dX12_cut_10 : decode cX12_cut 10 = .ok (.aload_n 0, 1) := by decide +kernel
theorem dX12_cut_11 : decode cX12_cut 11 = .ok (.iconst 0, 1) := by decide +kernel
theorem dX12_cut_12 : decode cX12_cut 12 = .ok (.putfield 127, 3) := by decide +kernel
theorem dX12_cut_15 : decode cX12_cut 15 = .ok (.iconst 0, 1) := by decide +kernel
theorem dX12_cut_16 : decode cX12_cut 16 = .ok (.istore_n 1, 1) := by decide +kernel
theorem dX12_cut_17 : decode cX12_cut 17 = .ok (.iload_n 1, 1) := by decide +kernel
theorem dX12_cut_18 : decode cX12_cut 18 = .ok (.aload_n 0, 1) := by decide +kernel
theorem dX12_cut_19 : decode cX12_cut 19 = .ok (.getfield 238, 3) := by decide +kernel
theorem dX12_cut_22 : decode cX12_cut 22 = .ok (.if_icmp .ge 20, 3) := by decide +kernel
theorem dX12_cut_25 : decode cX12_cut 25 = .ok (.aload_n 0, 1) := by decide +kernel
theorem dX12_cut_26 : decode cX12_cut 26 = .ok (.aload_n 0, 1) := by decide +kernel
theorem dX12_cut_27 : decode cX12_cut 27 = .ok (.iload_n 1, 1) := by decide +kernel
theorem dX12_cut_28 : decode cX12_cut 28 = .ok (.iconst 2, 1) := by decide +kernel
theorem dX12_cut_29 : decode cX12_cut 29 = .ok (.invokevirtual 277, 3) := by decide +kernel
theorem dX12_cut_32 : decode cX12_cut 32 = .ok (.i2l, 1) := by decide +kernel
theorem dX12_cut_33 : decode cX12_cut 33 = .ok (.invokevirtual 280, 3) := by decide +kernel
theorem dX12_cut_36 : decode cX12_cut 36 = .ok (.iinc 1 1, 3) := by decide +kernel
theorem dX12_cut_39 : decode cX12_cut 39 = .ok (.goto (-22), 3) := by decide +kernel
theorem dX12_cut_42 : decode cX12_cut 42 = .ok (.aload_n 0, 1) := by decide +kernel
theorem dX12_cut_43 : decode cX12_cut 43 = .ok (.getfield 238, 3) := by decide +kernel
theorem dX12_cut_46 : decode cX12_cut 46 = .ok (.ireturn, 1) := by decide +kernel
theorem dX12_token_0 : decode cX12_token 0 = .ok (.aload_n 0, 1) := by decide +kernel
theorem dX12_token_1 : decode cX12_token 1 = .ok (.iconst 0, 1) := by decide +kernel
theorem dX12_token_2 : decode cX12_token 2 = .ok (.putfield 123, 3) := by decide +kernel
theorem dX12_token_5 : decode cX12_token 5 = .ok (.aload_n 0, 1) := by decide +kernel
theorem dX12_token_6 : decode cX12_token 6 = .ok (.iconst 0, 1) := by decide +kernel
theorem dX12_token_7 : decode cX12_token 7 = .ok (.invokevirtual 274, 3) := by decide +kernel
theorem dX12_token_10 : decode cX12_token 10 = .ok (.iload_n 1, 1) := by decide +kernel
theorem dX12_token_11 : decode cX12_token 11 = .ok (.iconst 0, 1) := by decide +kernel
theorem dX12_token_12 : decode cX12_token 12 = .ok (.aload_n 0, 1) := by decide +kernel
theorem dX12_token_13 : decode cX12_token 13 = .ok (.getfield 238, 3) := by decide +kernel
theorem dX12_token_16 : decode cX12_token 16 = .ok (.iconst 1, 1) := by decide +kernel
theorem dX12_token_17 : decode cX12_token 17 = .ok (.isub, 1) := by decide +kernel
theorem dX12_token_18 : decode cX12_token 18 = .ok (.invokestatic 133, 3) := by decide +kernel
theorem dX12_token_21 : decode cX12_token 21 = .ok (.ifCond .eq 21, 3) := by decide +kernel
theorem dX12_token_24 : decode cX12_token 24 = .ok (.iload_n 2, 1) := by decide +kernel
theorem dX12_token_25 : decode cX12_token 25 = .ok (.iconst 0, 1) := by decide +kernel
theorem dX12_token_26 : decode cX12_token 26 = .ok (.iconst 5, 1) := by decide +kernel
theorem dX12_token_27 : decode cX12_token 27 = .ok (.invokestatic 133, 3) := by decide +kernel
theorem dX12_token_30 : decode cX12_token 30 = .ok (.ifCond .eq 12, 3) := by decide +kernel
theorem dX12_token_33 : decode cX12_token 33 = .ok (.aload_n 0, 1) := by decide +kernel
theorem dX12_token_34 : decode cX12_token 34 = .ok (.iload_n 1, 1) := by decide +kernel
theorem dX12_token_35 : decode cX12_token 35 = .ok (.iload_n 2, 1) := by decide +kernel
theorem dX12_token_36 : decode cX12_token 36 = .ok (.invokevirtual 277, 3) := by decide +kernel
theorem dX12_token_39 : decode cX12_token 39 = .ok (.goto 7, 3) := by decide +kernel
theorem dX12_token_42 : decode cX12_token 42 = .ok (.aload_n 0, 1) := by decide +kernel
theorem dX12_token_43 : decode cX12_token 43 = .ok (.invokevirtual 226, 3) := by decide +kernel
theorem dX12_token_46 : decode cX12_token 46 = .ok (.ireturn, 1) := by decide +kernel
theorem dX12_modes_0 : decode cX12_modes 0 = .ok (.aload_n 0, 1) := by decide +kernel
theorem dX12_modes_1 : decode cX12_modes 1 = .ok (.iconst 0, 1) := by decide +kernel
theorem dX12_modes_2 : decode cX12_modes 2 = .ok (.putfield 123, 3) := by decide +kernel
theorem dX12_modes_5 : decode cX12_modes 5 = .ok (.aload_n 0, 1) := by decide +kernel
theorem dX12_modes_6 : decode cX12_modes 6 = .ok (.iconst 0, 1) := by decide +kernel
theorem dX12_modes_7 : decode cX12_modes 7 = .ok (.invokevirtual 274, 3) := by decide +kernel
theorem dX12_modes_10 : decode cX12_modes 10 = .ok (.iload_n 1, 1) := by decide +kernel
theorem dX12_modes_11 : decode cX12_modes 11 = .ok (.iconst (-1), 1) := by decide +kernel
theorem dX12_modes_12 : decode cX12_modes 12 = .ok (.aload_n 0, 1) := by decide +kernel
theorem dX12_modes_13 : decode cX12_modes 13 = .ok (.getfield 238, 3) := by decide +kernel
theorem dX12_modes_16 : decode cX12_modes 16 = .ok (.iconst 1, 1) := by decide +kernel
theorem dX12_modes_17 : decode cX12_modes 17 = .ok (.isub, 1) := by decide +kernel
theorem dX12_modes_18 : decode cX12_modes 18 = .ok (.invokestatic 133, 3) := by decide +kernel
theorem dX12_modes_21 : decode cX12_modes 21 = .ok (.ifCond .ne 6, 3) := by decide +kernel
theorem dX12_modes_24 : decode cX12_modes 24 = .ok (.bipush (-2), 2) := by decide +kernel
theorem dX12_modes_26 : decode cX12_modes 26 = .ok (.ireturn, 1) := by decide +kernel
theorem dX12_modes_27 : decode cX12_modes 27 = .ok (.aload_n 0, 1) := by decide +kernel
theorem dX12_modes_28 : decode cX12_modes 28 = .ok (.iconst 0, 1) := by decide +kernel
theorem dX12_modes_29 : decode cX12_modes 29 = .ok (.putfield 127, 3) := by decide +kernel
theorem dX12_modes_32 : decode cX12_modes 32 = .ok (.iload_n 1, 1) := by decide +kernel
theorem dX12_modes_33 : decode cX12_modes 33 = .ok (.iconst (-1), 1) := by decide +kernel
theorem dX12_modes_34 : decode cX12_modes 34 = .ok (.if_icmp .ne 8, 3) := by decide +kernel
theorem dX12_modes_37 : decode cX12_modes 37 = .ok (.aload_n 0, 1) := by decide +kernel
theorem dX12_modes_38 : decode cX12_modes 38 = .ok (.lconst 0, 1) := by decide +kernel
theorem dX12_modes_39 : decode cX12_modes 39 = .ok (.invokevirtual 280, 3) := by decide +kernel
theorem dX12_modes_42 : decode cX12_modes 42 = .ok (.iconst 0, 1) := by decide +kernel
theorem dX12_modes_43 : decode cX12_modes 43 = .ok (.istore_n 2, 1) := by decide +kernel
theorem dX12_modes_44 : decode cX12_modes 44 = .ok (.iload_n 1, 1) := by decide +kernel
theorem dX12_modes_45 : decode cX12_modes 45 = .ok (.iconst (-1), 1) := by decide +kernel
theorem dX12_modes_46 : decode cX12_modes 46 = .ok (.if_icmp .eq 33, 3) := by decide +kernel
theorem dX12_modes_49 : decode cX12_modes 49 = .ok (.iload_n 2, 1) := by decide +kernel
theorem dX12_modes_50 : decode cX12_modes 50 = .ok (.aload_n 0, 1) := by decide +kernel
theorem dX12_modes_51 : decode cX12_modes 51 = .ok (.iload_n 1, 1) := by decide +kernel
theorem dX12_modes_52 : decode cX12_modes 52 = .ok (.iconst 5, 1) := by decide +kernel
theorem dX12_modes_53 : decode cX12_modes 53 = .ok (.invokevirtual 277, 3) := by decide +kernel
theorem dX12_modes_56 : decode cX12_modes 56 = .ok (.if_icmp .ge 23, 3) := by decide +kernel
theorem dX12_modes_59 : decode cX12_modes 59 = .ok (.aload_n 0, 1) := by decide +kernel
theorem dX12_modes_60 : decode cX12_modes 60 = .ok (.aload_n 0, 1) := by decide +kernel
theorem dX12_modes_61 : decode cX12_modes 61 = .ok (.iload_n 1, 1) := by decide +kernel
theorem dX12_modes_62 : decode cX12_modes 62 = .ok (.bipush 7, 2) := by decide +kernel
theorem dX12_modes_64 : decode cX12_modes 64 = .ok (.iload_n 2, 1) := by decide +kernel
theorem dX12_modes_65 : decode cX12_modes 65 = .ok (.iadd, 1) := by decide +kernel
theorem dX12_modes_66 : decode cX12_modes 66 = .ok (.invokevirtual 277, 3) := by decide +kernel
theorem dX12_modes_69 : decode cX12_modes 69 = .ok (.i2l, 1) := by decide +kernel
theorem dX12_modes_70 : decode cX12_modes 70 = .ok (.invokevirtual 280, 3) := by decide +kernel
theorem dX12_modes_73 : decode cX12_modes 73 = .ok (.iinc 2 1, 3) := by decide +kernel
theorem dX12_modes_76 : decode cX12_modes 76 = .ok (.goto (-32), 3) := by decide +kernel
theorem dX12_modes_79 : decode cX12_modes 79 = .ok (.aload_n 0, 1) := by decide +kernel
theorem dX12_modes_80 : decode cX12_modes 80 = .ok (.getfield 127, 3) := by decide +kernel
theorem dX12_modes_83 : decode cX12_modes 83 = .ok (.ireturn, 1) := by decide +kernel
theorem dX12_holds_0 : decode cX12_holds 0 = .ok (.aload_n 0, 1) := by decide +kernel
theorem dX12_holds_1 : decode cX12_holds 1 = .ok (.iconst 0, 1) := by decide +kernel
theorem dX12_holds_2 : decode cX12_holds 2 = .ok (.putfield 123, 3) := by decide +kernel
theorem dX12_holds_5 : decode cX12_holds 5 = .ok (.iload_n 1, 1) := by decide +kernel
theorem dX12_holds_6 : decode cX12_holds 6 = .ok (.iconst 0, 1) := by decide +kernel
theorem dX12_holds_7 : decode cX12_holds 7 = .ok (.aload_n 0, 1) := by decide +kernel
theorem dX12_holds_8 : decode cX12_holds 8 = .ok (.getfield 9, 3) := by decide +kernel
theorem dX12_holds_11 : decode cX12_holds 11 = .ok (.bipush 81, 2) := by decide +kernel
theorem dX12_holds_13 : decode cX12_holds 13 = .ok (.iaload, 1) := by decide +kernel
theorem dX12_holds_14 : decode cX12_holds 14 = .ok (.iconst 1, 1) := by decide +kernel
theorem dX12_holds_15 : decode cX12_holds 15 = .ok (.isub, 1) := by decide +kernel
theorem dX12_holds_16 : decode cX12_holds 16 = .ok (.invokestatic 133, 3) := by decide +kernel
theorem dX12_holds_19 : decode cX12_holds 19 = .ok (.ifCond .ne 5, 3) := by decide +kernel
theorem dX12_holds_22 : decode cX12_holds 22 = .ok (.iconst (-1), 1) := by decide +kernel
theorem dX12_holds_23 : decode cX12_holds 23 = .ok (.ireturn, 1) := by decide +kernel
theorem dX12_holds_24 : decode cX12_holds 24 = .ok (.aload_n 0, 1) := by decide +kernel
theorem dX12_holds_25 : decode cX12_holds 25 = .ok (.iconst 0, 1) := by decide +kernel
theorem dX12_holds_26 : decode cX12_holds 26 = .ok (.invokevirtual 274, 3) := by decide +kernel
theorem dX12_holds_29 : decode cX12_holds 29 = .ok (.iconst 0, 1) := by decide +kernel
theorem dX12_holds_30 : decode cX12_holds 30 = .ok (.istore_n 2, 1) := by decide +kernel
theorem dX12_holds_31 : decode cX12_holds 31 = .ok (.aload_n 0, 1) := by decide +kernel
theorem dX12_holds_32 : decode cX12_holds 32 = .ok (.iload_n 2, 1) := by decide +kernel
theorem dX12_holds_33 : decode cX12_holds 33 = .ok (.iconst 2, 1) := by decide +kernel
theorem dX12_holds_34 : decode cX12_holds 34 = .ok (.invokevirtual 277, 3) := by decide +kernel
theorem dX12_holds_37 : decode cX12_holds 37 = .ok (.iload_n 1, 1) := by decide +kernel
theorem dX12_holds_38 : decode cX12_holds 38 = .ok (.if_icmp .gt 9, 3) := by decide +kernel
theorem dX12_holds_41 : decode cX12_holds 41 = .ok (.iinc 2 1, 3) := by decide +kernel
theorem dX12_holds_44 : decode cX12_holds 44 = .ok (.goto (-13), 3) := by decide +kernel
theorem dX12_holds_47 : decode cX12_holds 47 = .ok (.iload_n 2, 1) := by decide +kernel
theorem dX12_holds_48 : decode cX12_holds 48 = .ok (.ireturn, 1) := by decide +kernel
theorem dX12_stuckMany_0 : decode cX12_stuckMany 0 = .ok (.iconst 0, 1) := by decide +kernel
theorem dX12_stuckMany_1 : decode cX12_stuckMany 1 = .ok (.istore_n 1, 1) := by decide +kernel
theorem dX12_stuckMany_2 : decode cX12_stuckMany 2 = .ok (.iconst 0, 1) := by decide +kernel
theorem dX12_stuckMany_3 : decode cX12_stuckMany 3 = .ok (.istore_n 2, 1) := by decide +kernel
theorem dX12_stuckMany_4 : decode cX12_stuckMany 4 = .ok (.iload_n 2, 1) := by decide +kernel
theorem dX12_stuckMany_5 : decode cX12_stuckMany 5 = .ok (.aload_n 0, 1) := by decide +kernel
theorem dX12_stuckMany_6 : decode cX12_stuckMany 6 = .ok (.getfield 238, 3) := by decide +kernel
theorem dX12_stuckMany_9 : decode cX12_stuckMany 9 = .ok (.if_icmp .ge 27, 3) := by decide +kernel
theorem dX12_stuckMany_12 : decode cX12_stuckMany 12 = .ok (.iload_n 1, 1) := by decide +kernel
theorem dX12_stuckMany_13 : decode cX12_stuckMany 13 = .ok (.aload_n 0, 1) := by decide +kernel
theorem dX12_stuckMany_14 : decode cX12_stuckMany 14 = .ok (.iload_n 2, 1) := by decide +kernel
theorem dX12_stuckMany_15 : decode cX12_stuckMany 15 = .ok (.iconst 0, 1) := by decide +kernel
theorem dX12_stuckMany_16 : decode cX12_stuckMany 16 = .ok (.invokevirtual 277, 3) := by decide +kernel
theorem dX12_stuckMany_19 : decode cX12_stuckMany 19 = .ok (.iconst (-1), 1) := by decide +kernel
theorem dX12_stuckMany_20 : decode cX12_stuckMany 20 = .ok (.if_icmp .ne 7, 3) := by decide +kernel
theorem dX12_stuckMany_23 : decode cX12_stuckMany 23 = .ok (.iconst 1, 1) := by decide +kernel
theorem dX12_stuckMany_24 : decode cX12_stuckMany 24 = .ok (.goto 4, 3) := by decide +kernel
theorem dX12_stuckMany_27 : decode cX12_stuckMany 27 = .ok (.iconst 0, 1) := by decide +kernel
theorem dX12_stuckMany_28 : decode cX12_stuckMany 28 = .ok (.iadd, 1) := by decide +kernel
theorem dX12_stuckMany_29 : decode cX12_stuckMany 29 = .ok (.istore_n 1, 1) := by decide +kernel
theorem dX12_stuckMany_30 : decode cX12_stuckMany 30 = .ok (.iinc 2 1, 3) := by decide +kernel
theorem dX12_stuckMany_33 : decode cX12_stuckMany 33 = .ok (.goto (-29), 3) := by decide +kernel
theorem dX12_stuckMany_36 : decode cX12_stuckMany 36 = .ok (.iload_n 1, 1) := by decide +kernel
theorem dX12_stuckMany_37 : decode cX12_stuckMany 37 = .ok (.ireturn, 1) := by decide +kernel
theorem dX12_stuck_0 : decode cX12_stuck 0 = .ok (.aload_n 0, 1) := by decide +kernel
theorem dX12_stuck_1 : decode cX12_stuck 1 = .ok (.iconst 0, 1) := by decide +kernel
theorem dX12_stuck_2 : decode cX12_stuck 2 = .ok (.putfield 123, 3) := by decide +kernel
theorem dX12_stuck_5 : decode cX12_stuck 5 = .ok (.aload_n 0, 1) := by decide +kernel
theorem dX12_stuck_6 : decode cX12_stuck 6 = .ok (.iconst 0, 1) := by decide +kernel
theorem dX12_stuck_7 : decode cX12_stuck 7 = .ok (.invokevirtual 274, 3) := by decide +kernel
theorem dX12_stuck_10 : decode cX12_stuck 10 = .ok (.aload_n 0, 1) := by decide +kernel
theorem dX12_stuck_11 : decode cX12_stuck 11 = .ok (.iconst 0, 1) := by decide +kernel
theorem dX12_stuck_12 : decode cX12_stuck 12 = .ok (.putfield 127, 3) := by decide +kernel
theorem dX12_stuck_15 : decode cX12_stuck 15 = .ok (.iconst 0, 1) := by decide +kernel
theorem dX12_stuck_16 : decode cX12_stuck 16 = .ok (.istore_n 1, 1) := by decide +kernel
theorem dX12_stuck_17 : decode cX12_stuck 17 = .ok (.iload_n 1, 1) := by decide +kernel
theorem dX12_stuck_18 : decode cX12_stuck 18 = .ok (.aload_n 0, 1) := by decide +kernel
theorem dX12_stuck_19 : decode cX12_stuck 19 = .ok (.getfield 238, 3) := by decide +kernel
theorem dX12_stuck_22 : decode cX12_stuck 22 = .ok (.if_icmp .ge 45, 3) := by decide +kernel
theorem dX12_stuck_25 : decode cX12_stuck 25 = .ok (.aload_n 0, 1) := by decide +kernel
theorem dX12_stuck_26 : decode cX12_stuck 26 = .ok (.iload_n 1, 1) := by decide +kernel
theorem dX12_stuck_27 : decode cX12_stuck 27 = .ok (.iconst 0, 1) := by decide +kernel
theorem dX12_stuck_28 : decode cX12_stuck 28 = .ok (.invokevirtual 277, 3) := by decide +kernel
theorem dX12_stuck_31 : decode cX12_stuck 31 = .ok (.iconst (-1), 1) := by decide +kernel
theorem dX12_stuck_32 : decode cX12_stuck 32 = .ok (.if_icmp .eq 6, 3) := by decide +kernel
theorem dX12_stuck_35 : decode cX12_stuck 35 = .ok (.goto 26, 3) := by decide +kernel
theorem dX12_stuck_38 : decode cX12_stuck 38 = .ok (.aload_n 0, 1) := by decide +kernel
theorem dX12_stuck_39 : decode cX12_stuck 39 = .ok (.aload_n 0, 1) := by decide +kernel
theorem dX12_stuck_40 : decode cX12_stuck 40 = .ok (.iload_n 1, 1) := by decide +kernel
theorem dX12_stuck_41 : decode cX12_stuck 41 = .ok (.iconst 1, 1) := by decide +kernel
theorem dX12_stuck_42 : decode cX12_stuck 42 = .ok (.invokevirtual 277, 3) := by decide +kernel
theorem dX12_stuck_45 : decode cX12_stuck 45 = .ok (.i2l, 1) := by decide +kernel
theorem dX12_stuck_46 : decode cX12_stuck 46 = .ok (.invokevirtual 280, 3) := by decide +kernel
theorem dX12_stuck_49 : decode cX12_stuck 49 = .ok (.aload_n 0, 1) := by decide +kernel
theorem dX12_stuck_50 : decode cX12_stuck 50 = .ok (.aload_n 0, 1) := by decide +kernel
theorem dX12_stuck_51 : decode cX12_stuck 51 = .ok (.iload_n 1, 1) := by decide +kernel
theorem dX12_stuck_52 : decode cX12_stuck 52 = .ok (.bipush 6, 2) := by decide +kernel
theorem dX12_stuck_54 : decode cX12_stuck 54 = .ok (.invokevirtual 277, 3) := by decide +kernel
theorem dX12_stuck_57 : decode cX12_stuck 57 = .ok (.i2l, 1) := by decide +kernel
theorem dX12_stuck_58 : decode cX12_stuck 58 = .ok (.invokevirtual 280, 3) := by decide +kernel
theorem dX12_stuck_61 : decode cX12_stuck 61 = .ok (.iinc 1 1, 3) := by decide +kernel
theorem dX12_stuck_64 : decode cX12_stuck 64 = .ok (.goto (-47), 3) := by decide +kernel
theorem dX12_stuck_67 : decode cX12_stuck 67 = .ok (.aload_n 0, 1) := by decide +kernel
theorem dX12_stuck_68 : decode cX12_stuck 68 = .ok (.invokevirtual 284, 3) := by decide +kernel
theorem dX12_stuck_71 : decode cX12_stuck 71 = .ok (.ireturn, 1) := by decide +kernel
theorem dX12_by_0 : decode cX12_by 0 = .ok (.aload_n 0, 1) := by decide +kernel
theorem dX12_by_1 : decode cX12_by 1 = .ok (.iconst 0, 1) := by decide +kernel
theorem dX12_by_2 : decode cX12_by 2 = .ok (.putfield 123, 3) := by decide +kernel
theorem dX12_by_5 : decode cX12_by 5 = .ok (.iload_n 1, 1) := by decide +kernel
theorem dX12_by_6 : decode cX12_by 6 = .ok (.iconst (-1), 1) := by decide +kernel
theorem dX12_by_7 : decode cX12_by 7 = .ok (.aload_n 0, 1) := by decide +kernel
theorem dX12_by_8 : decode cX12_by 8 = .ok (.getfield 202, 3) := by decide +kernel
theorem dX12_by_11 : decode cX12_by 11 = .ok (.iconst 1, 1) := by decide +kernel
theorem dX12_by_12 : decode cX12_by 12 = .ok (.isub, 1) := by decide +kernel
theorem dX12_by_13 : decode cX12_by 13 = .ok (.invokestatic 133, 3) := by decide +kernel
theorem dX12_by_16 : decode cX12_by 16 = .ok (.ifCond .ne 6, 3) := by decide +kernel
theorem dX12_by_19 : decode cX12_by 19 = .ok (.bipush (-2), 2) := by decide +kernel
theorem dX12_by_21 : decode cX12_by 21 = .ok (.ireturn, 1) := by decide +kernel
theorem dX12_by_22 : decode cX12_by 22 = .ok (.aload_n 0, 1) := by decide +kernel
theorem dX12_by_23 : decode cX12_by 23 = .ok (.iconst 0, 1) := by decide +kernel
theorem dX12_by_24 : decode cX12_by 24 = .ok (.invokevirtual 274, 3) := by decide +kernel
theorem dX12_by_27 : decode cX12_by 27 = .ok (.aload_n 0, 1) := by decide +kernel
theorem dX12_by_28 : decode cX12_by 28 = .ok (.iconst 0, 1) := by decide +kernel
theorem dX12_by_29 : decode cX12_by 29 = .ok (.putfield 127, 3) := by decide +kernel
theorem dX12_by_32 : decode cX12_by 32 = .ok (.iconst 0, 1) := by decide +kernel
theorem dX12_by_33 : decode cX12_by 33 = .ok (.istore_n 2, 1) := by decide +kernel
theorem dX12_by_34 : decode cX12_by 34 = .ok (.iload_n 2, 1) := by decide +kernel
theorem dX12_by_35 : decode cX12_by 35 = .ok (.aload_n 0, 1) := by decide +kernel
theorem dX12_by_36 : decode cX12_by 36 = .ok (.getfield 238, 3) := by decide +kernel
theorem dX12_by_39 : decode cX12_by 39 = .ok (.if_icmp .ge 25, 3) := by decide +kernel
theorem dX12_by_42 : decode cX12_by 42 = .ok (.aload_n 0, 1) := by decide +kernel
theorem dX12_by_43 : decode cX12_by 43 = .ok (.iload_n 2, 1) := by decide +kernel
theorem dX12_by_44 : decode cX12_by 44 = .ok (.iconst 0, 1) := by decide +kernel
theorem dX12_by_45 : decode cX12_by 45 = .ok (.invokevirtual 277, 3) := by decide +kernel
theorem dX12_by_48 : decode cX12_by 48 = .ok (.iload_n 1, 1) := by decide +kernel
theorem dX12_by_49 : decode cX12_by 49 = .ok (.if_icmp .ne 9, 3) := by decide +kernel
theorem dX12_by_52 : decode cX12_by 52 = .ok (.aload_n 0, 1) := by decide +kernel
theorem dX12_by_53 : decode cX12_by 53 = .ok (.iload_n 2, 1) := by decide +kernel
theorem dX12_by_54 : decode cX12_by 54 = .ok (.i2l, 1) := by decide +kernel
theorem dX12_by_55 : decode cX12_by 55 = .ok (.invokevirtual 280, 3) := by decide +kernel
theorem dX12_by_58 : decode cX12_by 58 = .ok (.iinc 2 1, 3) := by decide +kernel
theorem dX12_by_61 : decode cX12_by 61 = .ok (.goto (-27), 3) := by decide +kernel
theorem dX12_by_64 : decode cX12_by 64 = .ok (.aload_n 0, 1) := by decide +kernel
theorem dX12_by_65 : decode cX12_by 65 = .ok (.getfield 127, 3) := by decide +kernel
theorem dX12_by_68 : decode cX12_by 68 = .ok (.ireturn, 1) := by decide +kernel
theorem dX12_layOld_0 : decode cX12_layOld 0 = .ok (.iconst 0, 1) := by decide +kernel
theorem dX12_layOld_1 : decode cX12_layOld 1 = .ok (.istore_n 1, 1) := by decide +kernel
theorem dX12_layOld_2 : decode cX12_layOld 2 = .ok (.iload_n 1, 1) := by decide +kernel
theorem dX12_layOld_3 : decode cX12_layOld 3 = .ok (.aload_n 0, 1) := by decide +kernel
theorem dX12_layOld_4 : decode cX12_layOld 4 = .ok (.getfield 80, 3) := by decide +kernel
theorem dX12_layOld_7 : decode cX12_layOld 7 = .ok (.arraylength, 1) := by decide +kernel
theorem dX12_layOld_8 : decode cX12_layOld 8 = .ok (.if_icmp .ge 21, 3) := by decide +kernel
theorem dX12_layOld_11 : decode cX12_layOld 11 = .ok (.aload_n 0, 1) := by decide +kernel
theorem dX12_layOld_12 : decode cX12_layOld 12 = .ok (.getfield 80, 3) := by decide +kernel
theorem dX12_layOld_15 : decode cX12_layOld 15 = .ok (.iload_n 1, 1) := by decide +kernel
theorem dX12_layOld_16 : decode cX12_layOld 16 = .ok (.aload_n 0, 1) := by decide +kernel
theorem dX12_layOld_17 : decode cX12_layOld 17 = .ok (.getfield 61, 3) := by decide +kernel
theorem dX12_layOld_20 : decode cX12_layOld 20 = .ok (.iload_n 1, 1) := by decide +kernel
theorem dX12_layOld_21 : decode cX12_layOld 21 = .ok (.iaload, 1) := by decide +kernel
theorem dX12_layOld_22 : decode cX12_layOld 22 = .ok (.iastore, 1) := by decide +kernel
theorem dX12_layOld_23 : decode cX12_layOld 23 = .ok (.iinc 1 1, 3) := by decide +kernel
theorem dX12_layOld_26 : decode cX12_layOld 26 = .ok (.goto (-24), 3) := by decide +kernel
theorem dX12_layOld_29 : decode cX12_layOld 29 = .ok (.aload_n 0, 1) := by decide +kernel
theorem dX12_layOld_30 : decode cX12_layOld 30 = .ok (.aload_n 0, 1) := by decide +kernel
theorem dX12_layOld_31 : decode cX12_layOld 31 = .ok (.getfield 238, 3) := by decide +kernel
theorem dX12_layOld_34 : decode cX12_layOld 34 = .ok (.putfield 287, 3) := by decide +kernel
theorem dX12_layOld_37 : decode cX12_layOld 37 = .ok (.return_, 1) := by decide +kernel
theorem dX12_like_0 : decode cX12_like 0 = .ok (.aload_n 0, 1) := by decide +kernel
theorem dX12_like_1 : decode cX12_like 1 = .ok (.iconst 0, 1) := by decide +kernel
theorem dX12_like_2 : decode cX12_like 2 = .ok (.putfield 123, 3) := by decide +kernel
theorem dX12_like_5 : decode cX12_like 5 = .ok (.iload_n 1, 1) := by decide +kernel
theorem dX12_like_6 : decode cX12_like 6 = .ok (.iconst 0, 1) := by decide +kernel
theorem dX12_like_7 : decode cX12_like 7 = .ok (.iconst 1, 1) := by decide +kernel
theorem dX12_like_8 : decode cX12_like 8 = .ok (.invokestatic 133, 3) := by decide +kernel
theorem dX12_like_11 : decode cX12_like 11 = .ok (.ifCond .ne 5, 3) := by decide +kernel
theorem dX12_like_14 : decode cX12_like 14 = .ok (.iconst (-1), 1) := by decide +kernel
theorem dX12_like_15 : decode cX12_like 15 = .ok (.ireturn, 1) := by decide +kernel
theorem dX12_like_16 : decode cX12_like 16 = .ok (.aload_n 0, 1) := by decide +kernel
theorem dX12_like_17 : decode cX12_like 17 = .ok (.getfield 77, 3) := by decide +kernel
theorem dX12_like_20 : decode cX12_like 20 = .ok (.iload_n 1, 1) := by decide +kernel
theorem dX12_like_21 : decode cX12_like 21 = .ok (.baload, 1) := by decide +kernel
theorem dX12_like_22 : decode cX12_like 22 = .ok (.ifCond .ne 6, 3) := by decide +kernel
theorem dX12_like_25 : decode cX12_like 25 = .ok (.bipush (-2), 2) := by decide +kernel
theorem dX12_like_27 : decode cX12_like 27 = .ok (.ireturn, 1) := by decide +kernel
theorem dX12_like_28 : decode cX12_like 28 = .ok (.aload_n 0, 1) := by decide +kernel
theorem dX12_like_29 : decode cX12_like 29 = .ok (.iconst 0, 1) := by decide +kernel
theorem dX12_like_30 : decode cX12_like 30 = .ok (.invokevirtual 274, 3) := by decide +kernel
theorem dX12_like_33 : decode cX12_like 33 = .ok (.aload_n 0, 1) := by decide +kernel
theorem dX12_like_34 : decode cX12_like 34 = .ok (.invokevirtual 290, 3) := by decide +kernel
theorem dX12_like_37 : decode cX12_like 37 = .ok (.iconst 0, 1) := by decide +kernel
theorem dX12_like_38 : decode cX12_like 38 = .ok (.istore_n 2, 1) := by decide +kernel
theorem dX12_like_39 : decode cX12_like 39 = .ok (.iload_n 2, 1) := by decide +kernel
theorem dX12_like_40 : decode cX12_like 40 = .ok (.bipush 106, 2) := by decide +kernel
theorem dX12_like_42 : decode cX12_like 42 = .ok (.if_icmp .ge 26, 3) := by decide +kernel
theorem dX12_like_45 : decode cX12_like 45 = .ok (.aload_n 0, 1) := by decide +kernel
theorem dX12_like_46 : decode cX12_like 46 = .ok (.getfield 113, 3) := by decide +kernel
theorem dX12_like_49 : decode cX12_like 49 = .ok (.iload_n 2, 1) := by decide +kernel
theorem dX12_like_50 : decode cX12_like 50 = .ok (.aload_n 0, 1) := by decide +kernel
theorem dX12_like_51 : decode cX12_like 51 = .ok (.getfield 74, 3) := by decide +kernel
theorem dX12_like_54 : decode cX12_like 54 = .ok (.bipush 106, 2) := by decide +kernel
theorem dX12_like_56 : decode cX12_like 56 = .ok (.iload_n 1, 1) := by decide +kernel
theorem dX12_like_57 : decode cX12_like 57 = .ok (.imul, 1) := by decide +kernel
theorem dX12_like_58 : decode cX12_like 58 = .ok (.iload_n 2, 1) := by decide +kernel
theorem dX12_like_59 : decode cX12_like 59 = .ok (.iadd, 1) := by decide +kernel
theorem dX12_like_60 : decode cX12_like 60 = .ok (.iaload, 1) := by decide +kernel
theorem dX12_like_61 : decode cX12_like 61 = .ok (.iastore, 1) := by decide +kernel
theorem dX12_like_62 : decode cX12_like 62 = .ok (.iinc 2 1, 3) := by decide +kernel
theorem dX12_like_65 : decode cX12_like 65 = .ok (.goto (-26), 3) := by decide +kernel
theorem dX12_like_68 : decode cX12_like 68 = .ok (.aload_n 0, 1) := by decide +kernel
theorem dX12_like_69 : decode cX12_like 69 = .ok (.aload_n 0, 1) := by decide +kernel
theorem dX12_like_70 : decode cX12_like 70 = .ok (.getfield 113, 3) := by decide +kernel
theorem dX12_like_73 : decode cX12_like 73 = .ok (.invokevirtual 119, 3) := by decide +kernel
theorem dX12_like_76 : decode cX12_like 76 = .ok (.aload_n 0, 1) := by decide +kernel
theorem dX12_like_77 : decode cX12_like 77 = .ok (.iconst 0, 1) := by decide +kernel
theorem dX12_like_78 : decode cX12_like 78 = .ok (.invokevirtual 274, 3) := by decide +kernel
theorem dX12_like_81 : decode cX12_like 81 = .ok (.iconst 0, 1) := by decide +kernel
theorem dX12_like_82 : decode cX12_like 82 = .ok (.istore_n 2, 1) := by decide +kernel
theorem dX12_like_83 : decode cX12_like 83 = .ok (.iload_n 2, 1) := by decide +kernel
theorem dX12_like_84 : decode cX12_like 84 = .ok (.aload_n 0, 1) := by decide +kernel
theorem dX12_like_85 : decode cX12_like 85 = .ok (.getfield 287, 3) := by decide +kernel
theorem dX12_like_88 : decode cX12_like 88 = .ok (.if_icmp .ge 57, 3) := by decide +kernel
theorem dX12_like_91 : decode cX12_like 91 = .ok (.iload_n 2, 1) := by decide +kernel
theorem dX12_like_92 : decode cX12_like 92 = .ok (.aload_n 0, 1) := by decide +kernel
theorem dX12_like_93 : decode cX12_like 93 = .ok (.getfield 238, 3) := by decide +kernel
theorem dX12_like_96 : decode cX12_like 96 = .ok (.if_icmp .ge 49, 3) := by decide +kernel
theorem dX12_like_99 : decode cX12_like 99 = .ok (.aload_n 0, 1) := by decide +kernel
theorem dX12_like_100 : decode cX12_like 100 = .ok (.getfield 80, 3) := by decide +kernel
theorem dX12_like_103 : decode cX12_like 103 = .ok (.bipush 12, 2) := by decide +kernel
theorem dX12_like_105 : decode cX12_like 105 = .ok (.iload_n 2, 1) := by decide +kernel
theorem dX12_like_106 : decode cX12_like 106 = .ok (.imul, 1) := by decide +kernel
theorem dX12_like_107 : decode cX12_like 107 = .ok (.iconst 0, 1) := by decide +kernel
theorem dX12_like_108 : decode cX12_like 108 = .ok (.iadd, 1) := by decide +kernel
theorem dX12_like_109 : decode cX12_like 109 = .ok (.iaload, 1) := by decide +kernel
theorem dX12_like_110 : decode cX12_like 110 = .ok (.aload_n 0, 1) := by decide +kernel
theorem dX12_like_111 : decode cX12_like 111 = .ok (.iload_n 2, 1) := by decide +kernel
theorem dX12_like_112 : decode cX12_like 112 = .ok (.iconst 0, 1) := by decide +kernel
theorem dX12_like_113 : decode cX12_like 113 = .ok (.invokevirtual 277, 3) := by decide +kernel
theorem dX12_like_116 : decode cX12_like 116 = .ok (.if_icmp .ne 29, 3) := by decide +kernel
theorem dX12_like_119 : decode cX12_like 119 = .ok (.aload_n 0, 1) := by decide +kernel
theorem dX12_like_120 : decode cX12_like 120 = .ok (.getfield 80, 3) := by decide +kernel
theorem dX12_like_123 : decode cX12_like 123 = .ok (.bipush 12, 2) := by decide +kernel
theorem dX12_like_125 : decode cX12_like 125 = .ok (.iload_n 2, 1) := by decide +kernel
theorem dX12_like_126 : decode cX12_like 126 = .ok (.imul, 1) := by decide +kernel
theorem dX12_like_127 : decode cX12_like 127 = .ok (.iconst 2, 1) := by decide +kernel
theorem dX12_like_128 : decode cX12_like 128 = .ok (.iadd, 1) := by decide +kernel
theorem dX12_like_129 : decode cX12_like 129 = .ok (.iaload, 1) := by decide +kernel
theorem dX12_like_130 : decode cX12_like 130 = .ok (.aload_n 0, 1) := by decide +kernel
theorem dX12_like_131 : decode cX12_like 131 = .ok (.iload_n 2, 1) := by decide +kernel
theorem dX12_like_132 : decode cX12_like 132 = .ok (.iconst 2, 1) := by decide +kernel
theorem dX12_like_133 : decode cX12_like 133 = .ok (.invokevirtual 277, 3) := by decide +kernel
theorem dX12_like_136 : decode cX12_like 136 = .ok (.if_icmp .ne 9, 3) := by decide +kernel
theorem dX12_like_139 : decode cX12_like 139 = .ok (.iinc 2 1, 3) := by decide +kernel
theorem dX12_like_142 : decode cX12_like 142 = .ok (.goto (-59), 3) := by decide +kernel
theorem dX12_like_145 : decode cX12_like 145 = .ok (.aload_n 0, 1) := by decide +kernel
theorem dX12_like_146 : decode cX12_like 146 = .ok (.iconst 0, 1) := by decide +kernel
theorem dX12_like_147 : decode cX12_like 147 = .ok (.putfield 127, 3) := by decide +kernel
theorem dX12_like_150 : decode cX12_like 150 = .ok (.aload_n 0, 1) := by decide +kernel
theorem dX12_like_151 : decode cX12_like 151 = .ok (.aload_n 0, 1) := by decide +kernel
theorem dX12_like_152 : decode cX12_like 152 = .ok (.getfield 238, 3) := by decide +kernel
theorem dX12_like_155 : decode cX12_like 155 = .ok (.i2l, 1) := by decide +kernel
theorem dX12_like_156 : decode cX12_like 156 = .ok (.invokevirtual 280, 3) := by decide +kernel
theorem dX12_like_159 : decode cX12_like 159 = .ok (.aload_n 0, 1) := by decide +kernel
theorem dX12_like_160 : decode cX12_like 160 = .ok (.aload_n 0, 1) := by decide +kernel
theorem dX12_like_161 : decode cX12_like 161 = .ok (.invokevirtual 284, 3) := by decide +kernel
theorem dX12_like_164 : decode cX12_like 164 = .ok (.i2l, 1) := by decide +kernel
theorem dX12_like_165 : decode cX12_like 165 = .ok (.invokevirtual 280, 3) := by decide +kernel
theorem dX12_like_168 : decode cX12_like 168 = .ok (.aload_n 0, 1) := by decide +kernel
theorem dX12_like_169 : decode cX12_like 169 = .ok (.aload_n 0, 1) := by decide +kernel
theorem dX12_like_170 : decode cX12_like 170 = .ok (.getfield 9, 3) := by decide +kernel
theorem dX12_like_173 : decode cX12_like 173 = .ok (.invokevirtual 119, 3) := by decide +kernel
theorem dX12_like_176 : decode cX12_like 176 = .ok (.iload_n 2, 1) := by decide +kernel
theorem dX12_like_177 : decode cX12_like 177 = .ok (.ireturn, 1) := by decide +kernel
theorem dX12_moded_0 : decode cX12_moded 0 = .ok (.aload_n 0, 1) := by decide +kernel
theorem dX12_moded_1 : decode cX12_moded 1 = .ok (.iconst 0, 1) := by decide +kernel
theorem dX12_moded_2 : decode cX12_moded 2 = .ok (.putfield 123, 3) := by decide +kernel
theorem dX12_moded_5 : decode cX12_moded 5 = .ok (.iload_n 1, 1) := by decide +kernel
theorem dX12_moded_6 : decode cX12_moded 6 = .ok (.invokestatic 293, 3) := by decide +kernel
theorem dX12_moded_9 : decode cX12_moded 9 = .ok (.ifCond .ne 5, 3) := by decide +kernel
theorem dX12_moded_12 : decode cX12_moded 12 = .ok (.iconst (-1), 1) := by decide +kernel
theorem dX12_moded_13 : decode cX12_moded 13 = .ok (.ireturn, 1) := by decide +kernel
theorem dX12_moded_14 : decode cX12_moded 14 = .ok (.aload_n 0, 1) := by decide +kernel
theorem dX12_moded_15 : decode cX12_moded 15 = .ok (.iconst 0, 1) := by decide +kernel
theorem dX12_moded_16 : decode cX12_moded 16 = .ok (.invokevirtual 274, 3) := by decide +kernel
theorem dX12_moded_19 : decode cX12_moded 19 = .ok (.iconst 0, 1) := by decide +kernel
theorem dX12_moded_20 : decode cX12_moded 20 = .ok (.istore_n 2, 1) := by decide +kernel
theorem dX12_moded_21 : decode cX12_moded 21 = .ok (.iconst 0, 1) := by decide +kernel
theorem dX12_moded_22 : decode cX12_moded 22 = .ok (.istore_n 3, 1) := by decide +kernel
theorem dX12_moded_23 : decode cX12_moded 23 = .ok (.iconst 0, 1) := by decide +kernel
theorem dX12_moded_24 : decode cX12_moded 24 = .ok (.istore 4, 2) := by decide +kernel
theorem dX12_moded_26 : decode cX12_moded 26 = .ok (.iconst 0, 1) := by decide +kernel
theorem dX12_moded_27 : decode cX12_moded 27 = .ok (.istore 5, 2) := by decide +kernel
theorem dX12_moded_29 : decode cX12_moded 29 = .ok (.iload 5, 2) := by decide +kernel
theorem dX12_moded_31 : decode cX12_moded 31 = .ok (.aload_n 0, 1) := by decide +kernel
theorem dX12_moded_32 : decode cX12_moded 32 = .ok (.getfield 238, 3) := by decide +kernel
theorem dX12_moded_35 : decode cX12_moded 35 = .ok (.if_icmp .ge 65, 3) := by decide +kernel
theorem dX12_moded_38 : decode cX12_moded 38 = .ok (.aload_n 0, 1) := by decide +kernel
theorem dX12_moded_39 : decode cX12_moded 39 = .ok (.iload 5, 2) := by decide +kernel
theorem dX12_moded_41 : decode cX12_moded 41 = .ok (.iconst 4, 1) := by decide +kernel
theorem dX12_moded_42 : decode cX12_moded 42 = .ok (.invokevirtual 277, 3) := by decide +kernel
theorem dX12_moded_45 : decode cX12_moded 45 = .ok (.iload_n 1, 1) := by decide +kernel
theorem dX12_moded_46 : decode cX12_moded 46 = .ok (.if_icmp .eq 6, 3) := by decide +kernel
theorem dX12_moded_49 : decode cX12_moded 49 = .ok (.goto 45, 3) := by decide +kernel
theorem dX12_moded_52 : decode cX12_moded 52 = .ok (.iinc 2 1, 3) := by decide +kernel
theorem dX12_moded_55 : decode cX12_moded 55 = .ok (.iload_n 3, 1) := by decide +kernel
theorem dX12_moded_56 : decode cX12_moded 56 = .ok (.aload_n 0, 1) := by decide +kernel
theorem dX12_moded_57 : decode cX12_moded 57 = .ok (.iload 5, 2) := by decide +kernel
theorem dX12_moded_59 : decode cX12_moded 59 = .ok (.iconst 2, 1) := by decide +kernel
theorem dX12_moded_60 : decode cX12_moded 60 = .ok (.invokevirtual 277, 3) := by decide +kernel
theorem dX12_moded_63 : decode cX12_moded 63 = .ok (.aload_n 0, 1) := by decide +kernel
theorem dX12_moded_64 : decode cX12_moded 64 = .ok (.iload 5, 2) := by decide +kernel
theorem dX12_moded_66 : decode cX12_moded 66 = .ok (.iconst 1, 1) := by decide +kernel
theorem dX12_moded_67 : decode cX12_moded 67 = .ok (.invokevirtual 277, 3) := by decide +kernel
theorem dX12_moded_70 : decode cX12_moded 70 = .ok (.isub, 1) := by decide +kernel
theorem dX12_moded_71 : decode cX12_moded 71 = .ok (.iadd, 1) := by decide +kernel
theorem dX12_moded_72 : decode cX12_moded 72 = .ok (.istore_n 3, 1) := by decide +kernel
theorem dX12_moded_73 : decode cX12_moded 73 = .ok (.iload 4, 2) := by decide +kernel
theorem dX12_moded_75 : decode cX12_moded 75 = .ok (.aload_n 0, 1) := by decide +kernel
theorem dX12_moded_76 : decode cX12_moded 76 = .ok (.iload 5, 2) := by decide +kernel
theorem dX12_moded_78 : decode cX12_moded 78 = .ok (.iconst 0, 1) := by decide +kernel
theorem dX12_moded_79 : decode cX12_moded 79 = .ok (.invokevirtual 277, 3) := by decide +kernel
theorem dX12_moded_82 : decode cX12_moded 82 = .ok (.iconst (-1), 1) := by decide +kernel
theorem dX12_moded_83 : decode cX12_moded 83 = .ok (.if_icmp .ne 7, 3) := by decide +kernel
theorem dX12_moded_86 : decode cX12_moded 86 = .ok (.iconst 1, 1) := by decide +kernel
theorem dX12_moded_87 : decode cX12_moded 87 = .ok (.goto 4, 3) := by decide +kernel
theorem dX12_moded_90 : decode cX12_moded 90 = .ok (.iconst 0, 1) := by decide +kernel
theorem dX12_moded_91 : decode cX12_moded 91 = .ok (.iadd, 1) := by decide +kernel
theorem dX12_moded_92 : decode cX12_moded 92 = .ok (.istore 4, 2) := by decide +kernel
theorem dX12_moded_94 : decode cX12_moded 94 = .ok (.iinc 5 1, 3) := by decide +kernel
theorem dX12_moded_97 : decode cX12_moded 97 = .ok (.goto (-68), 3) := by decide +kernel
theorem dX12_moded_100 : decode cX12_moded 100 = .ok (.aload_n 0, 1) := by decide +kernel
theorem dX12_moded_101 : decode cX12_moded 101 = .ok (.iconst 0, 1) := by decide +kernel
theorem dX12_moded_102 : decode cX12_moded 102 = .ok (.putfield 127, 3) := by decide +kernel
theorem dX12_moded_105 : decode cX12_moded 105 = .ok (.aload_n 0, 1) := by decide +kernel
theorem dX12_moded_106 : decode cX12_moded 106 = .ok (.iload_n 3, 1) := by decide +kernel
theorem dX12_moded_107 : decode cX12_moded 107 = .ok (.i2l, 1) := by decide +kernel
theorem dX12_moded_108 : decode cX12_moded 108 = .ok (.invokevirtual 280, 3) := by decide +kernel
theorem dX12_moded_111 : decode cX12_moded 111 = .ok (.aload_n 0, 1) := by decide +kernel
theorem dX12_moded_112 : decode cX12_moded 112 = .ok (.iload 4, 2) := by decide +kernel
theorem dX12_moded_114 : decode cX12_moded 114 = .ok (.i2l, 1) := by decide +kernel
theorem dX12_moded_115 : decode cX12_moded 115 = .ok (.invokevirtual 280, 3) := by decide +kernel
theorem dX12_moded_118 : decode cX12_moded 118 = .ok (.iload_n 2, 1) := by decide +kernel
theorem dX12_moded_119 : decode cX12_moded 119 = .ok (.ireturn, 1) := by decide +kernel
theorem dX12_readers_0 : decode cX12_readers 0 = .ok (.aload_n 0, 1) := by decide +kernel
theorem dX12_readers_1 : decode cX12_readers 1 = .ok (.iconst 0, 1) := by decide +kernel
theorem dX12_readers_2 : decode cX12_readers 2 = .ok (.putfield 123, 3) := by decide +kernel
theorem dX12_readers_5 : decode cX12_readers 5 = .ok (.iload_n 1, 1) := by decide +kernel
theorem dX12_readers_6 : decode cX12_readers 6 = .ok (.iconst 0, 1) := by decide +kernel
theorem dX12_readers_7 : decode cX12_readers 7 = .ok (.aload_n 0, 1) := by decide +kernel
theorem dX12_readers_8 : decode cX12_readers 8 = .ok (.getfield 9, 3) := by decide +kernel
theorem dX12_readers_11 : decode cX12_readers 11 = .ok (.bipush 81, 2) := by decide +kernel
theorem dX12_readers_13 : decode cX12_readers 13 = .ok (.iaload, 1) := by decide +kernel
theorem dX12_readers_14 : decode cX12_readers 14 = .ok (.iconst 1, 1) := by decide +kernel
theorem dX12_readers_15 : decode cX12_readers 15 = .ok (.isub, 1) := by decide +kernel
theorem dX12_readers_16 : decode cX12_readers 16 = .ok (.invokestatic 133, 3) := by decide +kernel
theorem dX12_readers_19 : decode cX12_readers 19 = .ok (.ifCond .ne 5, 3) := by decide +kernel
theorem dX12_readers_22 : decode cX12_readers 22 = .ok (.iconst (-1), 1) := by decide +kernel
theorem dX12_readers_23 : decode cX12_readers 23 = .ok (.ireturn, 1) := by decide +kernel
theorem dX12_readers_24 : decode cX12_readers 24 = .ok (.aload_n 0, 1) := by decide +kernel
theorem dX12_readers_25 : decode cX12_readers 25 = .ok (.iconst 0, 1) := by decide +kernel
theorem dX12_readers_26 : decode cX12_readers 26 = .ok (.invokevirtual 274, 3) := by decide +kernel
theorem dX12_readers_29 : decode cX12_readers 29 = .ok (.iconst 0, 1) := by decide +kernel
theorem dX12_readers_30 : decode cX12_readers 30 = .ok (.istore_n 2, 1) := by decide +kernel
theorem dX12_readers_31 : decode cX12_readers 31 = .ok (.iconst (-1), 1) := by decide +kernel
theorem dX12_readers_32 : decode cX12_readers 32 = .ok (.istore_n 3, 1) := by decide +kernel
theorem dX12_readers_33 : decode cX12_readers 33 = .ok (.iconst 0, 1) := by decide +kernel
theorem dX12_readers_34 : decode cX12_readers 34 = .ok (.istore 4, 2) := by decide +kernel
theorem dX12_readers_36 : decode cX12_readers 36 = .ok (.iconst 0, 1) := by decide +kernel
theorem dX12_readers_37 : decode cX12_readers 37 = .ok (.istore 5, 2) := by decide +kernel
theorem dX12_readers_39 : decode cX12_readers 39 = .ok (.iload 5, 2) := by decide +kernel
theorem dX12_readers_41 : decode cX12_readers 41 = .ok (.aload_n 0, 1) := by decide +kernel
theorem dX12_readers_42 : decode cX12_readers 42 = .ok (.getfield 238, 3) := by decide +kernel
theorem dX12_readers_45 : decode cX12_readers 45 = .ok (.if_icmp .ge 80, 3) := by decide +kernel
theorem dX12_readers_48 : decode cX12_readers 48 = .ok (.iload_n 1, 1) := by decide +kernel
theorem dX12_readers_49 : decode cX12_readers 49 = .ok (.aload_n 0, 1) := by decide +kernel
theorem dX12_readers_50 : decode cX12_readers 50 = .ok (.iload 5, 2) := by decide +kernel
theorem dX12_readers_52 : decode cX12_readers 52 = .ok (.iconst 1, 1) := by decide +kernel
theorem dX12_readers_53 : decode cX12_readers 53 = .ok (.invokevirtual 277, 3) := by decide +kernel
theorem dX12_readers_56 : decode cX12_readers 56 = .ok (.if_icmp .lt 63, 3) := by decide +kernel
theorem dX12_readers_59 : decode cX12_readers 59 = .ok (.iload_n 1, 1) := by decide +kernel
theorem dX12_readers_60 : decode cX12_readers 60 = .ok (.aload_n 0, 1) := by decide +kernel
theorem dX12_readers_61 : decode cX12_readers 61 = .ok (.iload 5, 2) := by decide +kernel
theorem dX12_readers_63 : decode cX12_readers 63 = .ok (.iconst 3, 1) := by decide +kernel
theorem dX12_readers_64 : decode cX12_readers 64 = .ok (.invokevirtual 277, 3) := by decide +kernel
theorem dX12_readers_67 : decode cX12_readers 67 = .ok (.aload_n 0, 1) := by decide +kernel
theorem dX12_readers_68 : decode cX12_readers 68 = .ok (.getfield 9, 3) := by decide +kernel
theorem dX12_readers_71 : decode cX12_readers 71 = .ok (.bipush 81, 2) := by decide +kernel
theorem dX12_readers_73 : decode cX12_readers 73 = .ok (.iaload, 1) := by decide +kernel
theorem dX12_readers_74 : decode cX12_readers 74 = .ok (.invokestatic 297, 3) := by decide +kernel
theorem dX12_readers_77 : decode cX12_readers 77 = .ok (.if_icmp .lt 6, 3) := by decide +kernel
theorem dX12_readers_80 : decode cX12_readers 80 = .ok (.goto 39, 3) := by decide +kernel
theorem dX12_readers_83 : decode cX12_readers 83 = .ok (.iload_n 3, 1) := by decide +kernel
theorem dX12_readers_84 : decode cX12_readers 84 = .ok (.iconst (-1), 1) := by decide +kernel
theorem dX12_readers_85 : decode cX12_readers 85 = .ok (.if_icmp .ne 8, 3) := by decide +kernel
theorem dX12_readers_88 : decode cX12_readers 88 = .ok (.iload 5, 2) := by decide +kernel
theorem dX12_readers_90 : decode cX12_readers 90 = .ok (.goto 4, 3) := by decide +kernel
theorem dX12_readers_93 : decode cX12_readers 93 = .ok (.iload_n 3, 1) := by decide +kernel
theorem dX12_readers_94 : decode cX12_readers 94 = .ok (.istore_n 3, 1) := by decide +kernel
theorem dX12_readers_95 : decode cX12_readers 95 = .ok (.iinc 2 1, 3) := by decide +kernel
theorem dX12_readers_98 : decode cX12_readers 98 = .ok (.iload 4, 2) := by decide +kernel
theorem dX12_readers_100 : decode cX12_readers 100 = .ok (.iload_n 1, 1) := by decide +kernel
theorem dX12_readers_101 : decode cX12_readers 101 = .ok (.aload_n 0, 1) := by decide +kernel
theorem dX12_readers_102 : decode cX12_readers 102 = .ok (.iload 5, 2) := by decide +kernel
theorem dX12_readers_104 : decode cX12_readers 104 = .ok (.iconst 2, 1) := by decide +kernel
theorem dX12_readers_105 : decode cX12_readers 105 = .ok (.invokevirtual 277, 3) := by decide +kernel
theorem dX12_readers_108 : decode cX12_readers 108 = .ok (.if_icmp .ge 7, 3) := by decide +kernel
theorem dX12_readers_111 : decode cX12_readers 111 = .ok (.iconst 1, 1) := by decide +kernel
theorem dX12_readers_112 : decode cX12_readers 112 = .ok (.goto 4, 3) := by decide +kernel
theorem dX12_readers_115 : decode cX12_readers 115 = .ok (.iconst 0, 1) := by decide +kernel
theorem dX12_readers_116 : decode cX12_readers 116 = .ok (.iadd, 1) := by decide +kernel
theorem dX12_readers_117 : decode cX12_readers 117 = .ok (.istore 4, 2) := by decide +kernel
theorem dX12_readers_119 : decode cX12_readers 119 = .ok (.iinc 5 1, 3) := by decide +kernel
theorem dX12_readers_122 : decode cX12_readers 122 = .ok (.goto (-83), 3) := by decide +kernel
theorem dX12_readers_125 : decode cX12_readers 125 = .ok (.aload_n 0, 1) := by decide +kernel
theorem dX12_readers_126 : decode cX12_readers 126 = .ok (.iconst 0, 1) := by decide +kernel
theorem dX12_readers_127 : decode cX12_readers 127 = .ok (.putfield 127, 3) := by decide +kernel
theorem dX12_readers_130 : decode cX12_readers 130 = .ok (.aload_n 0, 1) := by decide +kernel
theorem dX12_readers_131 : decode cX12_readers 131 = .ok (.iload_n 3, 1) := by decide +kernel
theorem dX12_readers_132 : decode cX12_readers 132 = .ok (.i2l, 1) := by decide +kernel
theorem dX12_readers_133 : decode cX12_readers 133 = .ok (.invokevirtual 280, 3) := by decide +kernel
theorem dX12_readers_136 : decode cX12_readers 136 = .ok (.aload_n 0, 1) := by decide +kernel
theorem dX12_readers_137 : decode cX12_readers 137 = .ok (.iload 4, 2) := by decide +kernel
theorem dX12_readers_139 : decode cX12_readers 139 = .ok (.i2l, 1) := by decide +kernel
theorem dX12_readers_140 : decode cX12_readers 140 = .ok (.invokevirtual 280, 3) := by decide +kernel
theorem dX12_readers_143 : decode cX12_readers 143 = .ok (.iload_n 2, 1) := by decide +kernel
theorem dX12_readers_144 : decode cX12_readers 144 = .ok (.ireturn, 1) := by decide +kernel
theorem dX12_readWithMemory_0 : decode cX12_readWithMemory 0 = .ok (.aload_n 0, 1) := by decide +kernel
theorem dX12_readWithMemory_1 : decode cX12_readWithMemory 1 = .ok (.iconst 1, 1) := by decide +kernel
theorem dX12_readWithMemory_2 : decode cX12_readWithMemory 2 = .ok (.invokevirtual 274, 3) := by decide +kernel
theorem dX12_readWithMemory_5 : decode cX12_readWithMemory 5 = .ok (.aload_n 0, 1) := by decide +kernel
theorem dX12_readWithMemory_6 : decode cX12_readWithMemory 6 = .ok (.getfield 241, 3) := by decide +kernel
theorem dX12_readWithMemory_9 : decode cX12_readWithMemory 9 = .ok (.ireturn, 1) := by decide +kernel
theorem dX12_read_0 : decode cX12_read 0 = .ok (.aload_n 0, 1) := by decide +kernel
theorem dX12_read_1 : decode cX12_read 1 = .ok (.iconst 0, 1) := by decide +kernel
theorem dX12_read_2 : decode cX12_read 2 = .ok (.putfield 123, 3) := by decide +kernel
theorem dX12_read_5 : decode cX12_read 5 = .ok (.aload_n 0, 1) := by decide +kernel
theorem dX12_read_6 : decode cX12_read 6 = .ok (.invokevirtual 300, 3) := by decide +kernel
theorem dX12_read_9 : decode cX12_read 9 = .ok (.istore_n 1, 1) := by decide +kernel
theorem dX12_read_10 : decode cX12_read 10 = .ok (.iconst 0, 1) := by decide +kernel
theorem dX12_read_11 : decode cX12_read 11 = .ok (.istore_n 2, 1) := by decide +kernel
theorem dX12_read_12 : decode cX12_read 12 = .ok (.iconst 0, 1) := by decide +kernel
theorem dX12_read_13 : decode cX12_read 13 = .ok (.istore_n 3, 1) := by decide +kernel
theorem dX12_read_14 : decode cX12_read 14 = .ok (.iload_n 3, 1) := by decide +kernel
theorem dX12_read_15 : decode cX12_read 15 = .ok (.ldc 64, 2) := by decide +kernel
theorem dX12_read_17 : decode cX12_read 17 = .ok (.if_icmp .ge 26, 3) := by decide +kernel
theorem dX12_read_20 : decode cX12_read 20 = .ok (.iload_n 2, 1) := by decide +kernel
theorem dX12_read_21 : decode cX12_read 21 = .ok (.aload_n 0, 1) := by decide +kernel
theorem dX12_read_22 : decode cX12_read 22 = .ok (.getfield 68, 3) := by decide +kernel
theorem dX12_read_25 : decode cX12_read 25 = .ok (.iload_n 3, 1) := by decide +kernel
theorem dX12_read_26 : decode cX12_read 26 = .ok (.baload, 1) := by decide +kernel
theorem dX12_read_27 : decode cX12_read 27 = .ok (.ifCond .eq 7, 3) := by decide +kernel
theorem dX12_read_30 : decode cX12_read 30 = .ok (.iconst 1, 1) := by decide +kernel
theorem dX12_read_31 : decode cX12_read 31 = .ok (.goto 4, 3) := by decide +kernel
theorem dX12_read_34 : decode cX12_read 34 = .ok (.iconst 0, 1) := by decide +kernel
theorem dX12_read_35 : decode cX12_read 35 = .ok (.iadd, 1) := by decide +kernel
theorem dX12_read_36 : decode cX12_read 36 = .ok (.istore_n 2, 1) := by decide +kernel
theorem dX12_read_37 : decode cX12_read 37 = .ok (.iinc 3 1, 3) := by decide +kernel
theorem dX12_read_40 : decode cX12_read 40 = .ok (.goto (-26), 3) := by decide +kernel
theorem dX12_read_43 : decode cX12_read 43 = .ok (.aload_n 0, 1) := by decide +kernel
theorem dX12_read_44 : decode cX12_read 44 = .ok (.iconst 0, 1) := by decide +kernel
theorem dX12_read_45 : decode cX12_read 45 = .ok (.invokevirtual 274, 3) := by decide +kernel
theorem dX12_read_48 : decode cX12_read 48 = .ok (.aload_n 0, 1) := by decide +kernel
theorem dX12_read_49 : decode cX12_read 49 = .ok (.iconst 0, 1) := by decide +kernel
theorem dX12_read_50 : decode cX12_read 50 = .ok (.putfield 127, 3) := by decide +kernel
theorem dX12_read_53 : decode cX12_read 53 = .ok (.aload_n 0, 1) := by decide +kernel
theorem dX12_read_54 : decode cX12_read 54 = .ok (.iload_n 1, 1) := by decide +kernel
theorem dX12_read_55 : decode cX12_read 55 = .ok (.i2l, 1) := by decide +kernel
theorem dX12_read_56 : decode cX12_read 56 = .ok (.invokevirtual 280, 3) := by decide +kernel
theorem dX12_read_59 : decode cX12_read 59 = .ok (.aload_n 0, 1) := by decide +kernel
theorem dX12_read_60 : decode cX12_read 60 = .ok (.iload_n 2, 1) := by decide +kernel
theorem dX12_read_61 : decode cX12_read 61 = .ok (.i2l, 1) := by decide +kernel
theorem dX12_read_62 : decode cX12_read 62 = .ok (.invokevirtual 280, 3) := by decide +kernel
theorem dX12_read_65 : decode cX12_read 65 = .ok (.aload_n 0, 1) := by decide +kernel
theorem dX12_read_66 : decode cX12_read 66 = .ok (.getfield 241, 3) := by decide +kernel
theorem dX12_read_69 : decode cX12_read 69 = .ok (.ireturn, 1) := by decide +kernel
theorem dX12_twice_0 : decode cX12_twice 0 = .ok (.aload_n 0, 1) := by decide +kernel
theorem dX12_twice_1 : decode cX12_twice 1 = .ok (.iconst 0, 1) := by decide +kernel
theorem dX12_twice_2 : decode cX12_twice 2 = .ok (.putfield 123, 3) := by decide +kernel
theorem dX12_twice_5 : decode cX12_twice 5 = .ok (.aload_n 0, 1) := by decide +kernel
theorem dX12_twice_6 : decode cX12_twice 6 = .ok (.invokevirtual 267, 3) := by decide +kernel
theorem dX12_twice_9 : decode cX12_twice 9 = .ok (.aload_n 0, 1) := by decide +kernel
theorem dX12_twice_10 : decode cX12_twice 10 = .ok (.iconst 0, 1) := by decide +kernel
theorem dX12_twice_11 : decode cX12_twice 11 = .ok (.invokevirtual 274, 3) := by decide +kernel
theorem dX12_twice_14 : decode cX12_twice 14 = .ok (.iconst 0, 1) := by decide +kernel
theorem dX12_twice_15 : decode cX12_twice 15 = .ok (.istore_n 1, 1) := by decide +kernel
theorem dX12_twice_16 : decode cX12_twice 16 = .ok (.iconst 0, 1) := by decide +kernel
theorem dX12_twice_17 : decode cX12_twice 17 = .ok (.istore_n 2, 1) := by decide +kernel
theorem dX12_twice_18 : decode cX12_twice 18 = .ok (.iconst 0, 1) := by decide +kernel
theorem dX12_twice_19 : decode cX12_twice 19 = .ok (.istore_n 3, 1) := by decide +kernel
theorem dX12_twice_20 : decode cX12_twice 20 = .ok (.iload_n 3, 1) := by decide +kernel
theorem dX12_twice_21 : decode cX12_twice 21 = .ok (.ldc 64, 2) := by decide +kernel
theorem dX12_twice_23 : decode cX12_twice 23 = .ok (.if_icmp .ge 36, 3) := by decide +kernel
theorem dX12_twice_26 : decode cX12_twice 26 = .ok (.aload_n 0, 1) := by decide +kernel
theorem dX12_twice_27 : decode cX12_twice 27 = .ok (.getfield 65, 3) := by decide +kernel
theorem dX12_twice_30 : decode cX12_twice 30 = .ok (.iload_n 3, 1) := by decide +kernel
theorem dX12_twice_31 : decode cX12_twice 31 = .ok (.iaload, 1) := by decide +kernel
theorem dX12_twice_32 : decode cX12_twice 32 = .ok (.iconst 2, 1) := by decide +kernel
theorem dX12_twice_33 : decode cX12_twice 33 = .ok (.if_icmp .ge 6, 3) := by decide +kernel
theorem dX12_twice_36 : decode cX12_twice 36 = .ok (.goto 17, 3) := by decide +kernel
theorem dX12_twice_39 : decode cX12_twice 39 = .ok (.iinc 1 1, 3) := by decide +kernel
theorem dX12_twice_42 : decode cX12_twice 42 = .ok (.iload_n 2, 1) := by decide +kernel
theorem dX12_twice_43 : decode cX12_twice 43 = .ok (.aload_n 0, 1) := by decide +kernel
theorem dX12_twice_44 : decode cX12_twice 44 = .ok (.getfield 65, 3) := by decide +kernel
theorem dX12_twice_47 : decode cX12_twice 47 = .ok (.iload_n 3, 1) := by decide +kernel
theorem dX12_twice_48 : decode cX12_twice 48 = .ok (.iaload, 1) := by decide +kernel
theorem dX12_twice_49 : decode cX12_twice 49 = .ok (.invokestatic 244, 3) := by decide +kernel
theorem dX12_twice_52 : decode cX12_twice 52 = .ok (.istore_n 2, 1) := by decide +kernel
theorem dX12_twice_53 : decode cX12_twice 53 = .ok (.iinc 3 1, 3) := by decide +kernel
theorem dX12_twice_56 : decode cX12_twice 56 = .ok (.goto (-36), 3) := by decide +kernel
theorem dX12_twice_59 : decode cX12_twice 59 = .ok (.aload_n 0, 1) := by decide +kernel
theorem dX12_twice_60 : decode cX12_twice 60 = .ok (.iconst 0, 1) := by decide +kernel
theorem dX12_twice_61 : decode cX12_twice 61 = .ok (.putfield 127, 3) := by decide +kernel
theorem dX12_twice_64 : decode cX12_twice 64 = .ok (.aload_n 0, 1) := by decide +kernel
theorem dX12_twice_65 : decode cX12_twice 65 = .ok (.iload_n 2, 1) := by decide +kernel
theorem dX12_twice_66 : decode cX12_twice 66 = .ok (.i2l, 1) := by decide +kernel
theorem dX12_twice_67 : decode cX12_twice 67 = .ok (.invokevirtual 280, 3) := by decide +kernel
theorem dX12_twice_70 : decode cX12_twice 70 = .ok (.iload_n 1, 1) := by decide +kernel
theorem dX12_twice_71 : decode cX12_twice 71 = .ok (.ireturn, 1) := by decide +kernel
theorem dX12_isMode_0 : decode cX12_isMode 0 = .ok (.iload_n 0, 1) := by decide +kernel
theorem dX12_isMode_1 : decode cX12_isMode 1 = .ok (.iconst 0, 1) := by decide +kernel
theorem dX12_isMode_2 : decode cX12_isMode 2 = .ok (.iconst 3, 1) := by decide +kernel
theorem dX12_isMode_3 : decode cX12_isMode 3 = .ok (.invokestatic 133, 3) := by decide +kernel
theorem dX12_isMode_6 : decode cX12_isMode 6 = .ok (.ireturn, 1) := by decide +kernel
theorem dX12_longest_0 : decode cX12_longest 0 = .ok (.aload_n 0, 1) := by decide +kernel
theorem dX12_longest_1 : decode cX12_longest 1 = .ok (.iconst 0, 1) := by decide +kernel
theorem dX12_longest_2 : decode cX12_longest 2 = .ok (.putfield 123, 3) := by decide +kernel
theorem dX12_longest_5 : decode cX12_longest 5 = .ok (.iload_n 1, 1) := by decide +kernel
theorem dX12_longest_6 : decode cX12_longest 6 = .ok (.invokestatic 293, 3) := by decide +kernel
theorem dX12_longest_9 : decode cX12_longest 9 = .ok (.ifCond .eq 18, 3) := by decide +kernel
theorem dX12_longest_12 : decode cX12_longest 12 = .ok (.iload_n 2, 1) := by decide +kernel
theorem dX12_longest_13 : decode cX12_longest 13 = .ok (.iconst 0, 1) := by decide +kernel
theorem dX12_longest_14 : decode cX12_longest 14 = .ok (.aload_n 0, 1) := by decide +kernel
theorem dX12_longest_15 : decode cX12_longest 15 = .ok (.getfield 9, 3) := by decide +kernel
theorem dX12_longest_18 : decode cX12_longest 18 = .ok (.bipush 81, 2) := by decide +kernel
theorem dX12_longest_20 : decode cX12_longest 20 = .ok (.iaload, 1) := by decide +kernel
theorem dX12_longest_21 : decode cX12_longest 21 = .ok (.invokestatic 133, 3) := by decide +kernel
theorem dX12_longest_24 : decode cX12_longest 24 = .ok (.ifCond .ne 5, 3) := by decide +kernel
theorem dX12_longest_27 : decode cX12_longest 27 = .ok (.iconst (-1), 1) := by decide +kernel
theorem dX12_longest_28 : decode cX12_longest 28 = .ok (.ireturn, 1) := by decide +kernel
theorem dX12_longest_29 : decode cX12_longest 29 = .ok (.iconst 0, 1) := by decide +kernel
theorem dX12_longest_30 : decode cX12_longest 30 = .ok (.istore_n 3, 1) := by decide +kernel
theorem dX12_longest_31 : decode cX12_longest 31 = .ok (.bipush (-2), 2) := by decide +kernel
theorem dX12_longest_33 : decode cX12_longest 33 = .ok (.istore 4, 2) := by decide +kernel
theorem dX12_longest_35 : decode cX12_longest 35 = .ok (.iconst (-1), 1) := by decide +kernel
theorem dX12_longest_36 : decode cX12_longest 36 = .ok (.istore 5, 2) := by decide +kernel
theorem dX12_longest_38 : decode cX12_longest 38 = .ok (.iload_n 2, 1) := by decide +kernel
theorem dX12_longest_39 : decode cX12_longest 39 = .ok (.istore 6, 2) := by decide +kernel
theorem dX12_longest_41 : decode cX12_longest 41 = .ok (.iload 6, 2) := by decide +kernel
theorem dX12_longest_43 : decode cX12_longest 43 = .ok (.aload_n 0, 1) := by decide +kernel
theorem dX12_longest_44 : decode cX12_longest 44 = .ok (.getfield 9, 3) := by decide +kernel
theorem dX12_longest_47 : decode cX12_longest 47 = .ok (.bipush 81, 2) := by decide +kernel
theorem dX12_longest_49 : decode cX12_longest 49 = .ok (.iaload, 1) := by decide +kernel
theorem dX12_longest_50 : decode cX12_longest 50 = .ok (.if_icmp .ge 76, 3) := by decide +kernel
theorem dX12_longest_53 : decode cX12_longest 53 = .ok (.iload 6, 2) := by decide +kernel
theorem dX12_longest_55 : decode cX12_longest 55 = .ok (.iload_n 2, 1) := by decide +kernel
theorem dX12_longest_56 : decode cX12_longest 56 = .ok (.if_icmp .eq 7, 3) := by decide +kernel
theorem dX12_longest_59 : decode cX12_longest 59 = .ok (.iload_n 3, 1) := by decide +kernel
theorem dX12_longest_60 : decode cX12_longest 60 = .ok (.ifCond .eq 66, 3) := by decide +kernel
theorem dX12_longest_63 : decode cX12_longest 63 = .ok (.aload_n 0, 1) := by decide +kernel
theorem dX12_longest_64 : decode cX12_longest 64 = .ok (.iload_n 1, 1) := by decide +kernel
theorem dX12_longest_65 : decode cX12_longest 65 = .ok (.iload_n 3, 1) := by decide +kernel
theorem dX12_longest_66 : decode cX12_longest 66 = .ok (.iload 6, 2) := by decide +kernel
theorem dX12_longest_68 : decode cX12_longest 68 = .ok (.iload_n 2, 1) := by decide +kernel
theorem dX12_longest_69 : decode cX12_longest 69 = .ok (.if_icmp .ne 7, 3) := by decide +kernel
theorem dX12_longest_72 : decode cX12_longest 72 = .ok (.iconst 1, 1) := by decide +kernel
theorem dX12_longest_73 : decode cX12_longest 73 = .ok (.goto 4, 3) := by decide +kernel
theorem dX12_longest_76 : decode cX12_longest 76 = .ok (.iconst 0, 1) := by decide +kernel
theorem dX12_longest_77 : decode cX12_longest 77 = .ok (.aload_n 0, 1) := by decide +kernel
theorem dX12_longest_78 : decode cX12_longest 78 = .ok (.getfield 9, 3) := by decide +kernel
theorem dX12_longest_81 : decode cX12_longest 81 = .ok (.bipush 82, 2) := by decide +kernel
theorem dX12_longest_83 : decode cX12_longest 83 = .ok (.iload 6, 2) := by decide +kernel
theorem dX12_longest_85 : decode cX12_longest 85 = .ok (.iadd, 1) := by decide +kernel
theorem dX12_longest_86 : decode cX12_longest 86 = .ok (.iaload, 1) := by decide +kernel
theorem dX12_longest_87 : decode cX12_longest 87 = .ok (.invokevirtual 250, 3) := by decide +kernel
theorem dX12_longest_90 : decode cX12_longest 90 = .ok (.istore_n 3, 1) := by decide +kernel
theorem dX12_longest_91 : decode cX12_longest 91 = .ok (.aload_n 0, 1) := by decide +kernel
theorem dX12_longest_92 : decode cX12_longest 92 = .ok (.iload_n 1, 1) := by decide +kernel
theorem dX12_longest_93 : decode cX12_longest 93 = .ok (.iload_n 3, 1) := by decide +kernel
theorem dX12_longest_94 : decode cX12_longest 94 = .ok (.invokevirtual 258, 3) := by decide +kernel
theorem dX12_longest_97 : decode cX12_longest 97 = .ok (.istore 7, 2) := by decide +kernel
theorem dX12_longest_99 : decode cX12_longest 99 = .ok (.iload 7, 2) := by decide +kernel
theorem dX12_longest_101 : decode cX12_longest 101 = .ok (.iconst (-1), 1) := by decide +kernel
theorem dX12_longest_102 : decode cX12_longest 102 = .ok (.if_icmp .ne 6, 3) := by decide +kernel
theorem dX12_longest_105 : decode cX12_longest 105 = .ok (.goto 15, 3) := by decide +kernel
theorem dX12_longest_108 : decode cX12_longest 108 = .ok (.iload 6, 2) := by decide +kernel
theorem dX12_longest_110 : decode cX12_longest 110 = .ok (.iconst 1, 1) := by decide +kernel
theorem dX12_longest_111 : decode cX12_longest 111 = .ok (.iadd, 1) := by decide +kernel
theorem dX12_longest_112 : decode cX12_longest 112 = .ok (.iload_n 2, 1) := by decide +kernel
theorem dX12_longest_113 : decode cX12_longest 113 = .ok (.isub, 1) := by decide +kernel
theorem dX12_longest_114 : decode cX12_longest 114 = .ok (.istore 4, 2) := by decide +kernel
theorem dX12_longest_116 : decode cX12_longest 116 = .ok (.iload 7, 2) := by decide +kernel
theorem dX12_longest_118 : decode cX12_longest 118 = .ok (.istore 5, 2) := by decide +kernel
theorem dX12_longest_120 : decode cX12_longest 120 = .ok (.iinc 6 1, 3) := by decide +kernel
theorem dX12_longest_123 : decode cX12_longest 123 = .ok (.goto (-82), 3) := by decide +kernel
theorem dX12_longest_126 : decode cX12_longest 126 = .ok (.iload 4, 2) := by decide +kernel
theorem dX12_longest_128 : decode cX12_longest 128 = .ok (.ifCond .ge 6, 3) := by decide +kernel
theorem dX12_longest_131 : decode cX12_longest 131 = .ok (.iload 4, 2) := by decide +kernel
theorem dX12_longest_133 : decode cX12_longest 133 = .ok (.ireturn, 1) := by decide +kernel
theorem dX12_longest_134 : decode cX12_longest 134 = .ok (.aload_n 0, 1) := by decide +kernel
theorem dX12_longest_135 : decode cX12_longest 135 = .ok (.iconst 0, 1) := by decide +kernel
theorem dX12_longest_136 : decode cX12_longest 136 = .ok (.putfield 127, 3) := by decide +kernel
theorem dX12_longest_139 : decode cX12_longest 139 = .ok (.aload_n 0, 1) := by decide +kernel
theorem dX12_longest_140 : decode cX12_longest 140 = .ok (.iload 5, 2) := by decide +kernel
theorem dX12_longest_142 : decode cX12_longest 142 = .ok (.i2l, 1) := by decide +kernel
theorem dX12_longest_143 : decode cX12_longest 143 = .ok (.invokevirtual 280, 3) := by decide +kernel
theorem dX12_longest_146 : decode cX12_longest 146 = .ok (.iload 4, 2) := by decide +kernel
theorem dX12_longest_148 : decode cX12_longest 148 = .ok (.ireturn, 1) := by decide +kernel
theorem dX12_standingBehind_0 : decode cX12_standingBehind 0 = .ok (.iconst 0, 1) := by decide +kernel
theorem dX12_standingBehind_1 : decode cX12_standingBehind 1 = .ok (.istore 4, 2) := by decide +kernel
theorem dX12_standingBehind_3 : decode cX12_standingBehind 3 = .ok (.iload_n 2, 1) := by decide +kernel
theorem dX12_standingBehind_4 : decode cX12_standingBehind 4 = .ok (.istore 5, 2) := by decide +kernel
theorem dX12_standingBehind_6 : decode cX12_standingBehind 6 = .ok (.iload 5, 2) := by decide +kernel
theorem dX12_standingBehind_8 : decode cX12_standingBehind 8 = .ok (.iload_n 3, 1) := by decide +kernel
theorem dX12_standingBehind_9 : decode cX12_standingBehind 9 = .ok (.if_icmp .ge 50, 3) := by decide +kernel
theorem dX12_standingBehind_12 : decode cX12_standingBehind 12 = .ok (.iload 5, 2) := by decide +kernel
theorem dX12_standingBehind_14 : decode cX12_standingBehind 14 = .ok (.iload_n 2, 1) := by decide +kernel
theorem dX12_standingBehind_15 : decode cX12_standingBehind 15 = .ok (.if_icmp .eq 8, 3) := by decide +kernel
theorem dX12_standingBehind_18 : decode cX12_standingBehind 18 = .ok (.iload 4, 2) := by decide +kernel
theorem dX12_standingBehind_20 : decode cX12_standingBehind 20 = .ok (.ifCond .eq 39, 3) := by decide +kernel
theorem dX12_standingBehind_23 : decode cX12_standingBehind 23 = .ok (.aload_n 0, 1) := by decide +kernel
theorem dX12_standingBehind_24 : decode cX12_standingBehind 24 = .ok (.iload_n 1, 1) := by decide +kernel
theorem dX12_standingBehind_25 : decode cX12_standingBehind 25 = .ok (.iload 4, 2) := by decide +kernel
theorem dX12_standingBehind_27 : decode cX12_standingBehind 27 = .ok (.iload 5, 2) := by decide +kernel
theorem dX12_standingBehind_29 : decode cX12_standingBehind 29 = .ok (.iload_n 2, 1) := by decide +kernel
theorem dX12_standingBehind_30 : decode cX12_standingBehind 30 = .ok (.if_icmp .ne 7, 3) := by decide +kernel
theorem dX12_standingBehind_33 : decode cX12_standingBehind 33 = .ok (.iconst 1, 1) := by decide +kernel
theorem dX12_standingBehind_34 : decode cX12_standingBehind 34 = .ok (.goto 4, 3) := by decide +kernel
theorem dX12_standingBehind_37 : decode cX12_standingBehind 37 = .ok (.iconst 0, 1) := by decide +kernel
theorem dX12_standingBehind_38 : decode cX12_standingBehind 38 = .ok (.aload_n 0, 1) := by decide +kernel
theorem dX12_standingBehind_39 : decode cX12_standingBehind 39 = .ok (.getfield 9, 3) := by decide +kernel
theorem dX12_standingBehind_42 : decode cX12_standingBehind 42 = .ok (.bipush 82, 2) := by decide +kernel
theorem dX12_standingBehind_44 : decode cX12_standingBehind 44 = .ok (.iload 5, 2) := by decide +kernel
theorem dX12_standingBehind_46 : decode cX12_standingBehind 46 = .ok (.iadd, 1) := by decide +kernel
theorem dX12_standingBehind_47 : decode cX12_standingBehind 47 = .ok (.iaload, 1) := by decide +kernel
theorem dX12_standingBehind_48 : decode cX12_standingBehind 48 = .ok (.invokevirtual 250, 3) := by decide +kernel
theorem dX12_standingBehind_51 : decode cX12_standingBehind 51 = .ok (.istore 4, 2) := by decide +kernel
theorem dX12_standingBehind_53 : decode cX12_standingBehind 53 = .ok (.iinc 5 1, 3) := by decide +kernel
theorem dX12_standingBehind_56 : decode cX12_standingBehind 56 = .ok (.goto (-50), 3) := by decide +kernel
theorem dX12_standingBehind_59 : decode cX12_standingBehind 59 = .ok (.iload 4, 2) := by decide +kernel
theorem dX12_standingBehind_61 : decode cX12_standingBehind 61 = .ok (.ireturn, 1) := by decide +kernel
theorem dX12_doesMatch_0 : decode cX12_doesMatch 0 = .ok (.iload_n 2, 1) := by decide +kernel
theorem dX12_doesMatch_1 : decode cX12_doesMatch 1 = .ok (.iload_n 3, 1) := by decide +kernel
theorem dX12_doesMatch_2 : decode cX12_doesMatch 2 = .ok (.if_icmp .ne 12, 3) := by decide +kernel
theorem dX12_doesMatch_5 : decode cX12_doesMatch 5 = .ok (.aload_n 0, 1) := by decide +kernel
theorem dX12_doesMatch_6 : decode cX12_doesMatch 6 = .ok (.getfield 36, 3) := by decide +kernel
theorem dX12_doesMatch_9 : decode cX12_doesMatch 9 = .ok (.iload_n 1, 1) := by decide +kernel
theorem dX12_doesMatch_10 : decode cX12_doesMatch 10 = .ok (.baload, 1) := by decide +kernel
theorem dX12_doesMatch_11 : decode cX12_doesMatch 11 = .ok (.goto 30, 3) := by decide +kernel
theorem dX12_doesMatch_14 : decode cX12_doesMatch 14 = .ok (.aload_n 0, 1) := by decide +kernel
theorem dX12_doesMatch_15 : decode cX12_doesMatch 15 = .ok (.aload_n 0, 1) := by decide +kernel
theorem dX12_doesMatch_16 : decode cX12_doesMatch 16 = .ok (.getfield 24, 3) := by decide +kernel
theorem dX12_doesMatch_19 : decode cX12_doesMatch 19 = .ok (.iload_n 1, 1) := by decide +kernel
theorem dX12_doesMatch_20 : decode cX12_doesMatch 20 = .ok (.iaload, 1) := by decide +kernel
theorem dX12_doesMatch_21 : decode cX12_doesMatch 21 = .ok (.iload_n 2, 1) := by decide +kernel
theorem dX12_doesMatch_22 : decode cX12_doesMatch 22 = .ok (.iload_n 3, 1) := by decide +kernel
theorem dX12_doesMatch_23 : decode cX12_doesMatch 23 = .ok (.invokevirtual 303, 3) := by decide +kernel
theorem dX12_doesMatch_26 : decode cX12_doesMatch 26 = .ok (.aload_n 0, 1) := by decide +kernel
theorem dX12_doesMatch_27 : decode cX12_doesMatch 27 = .ok (.getfield 43, 3) := by decide +kernel
theorem dX12_doesMatch_30 : decode cX12_doesMatch 30 = .ok (.iload_n 1, 1) := by decide +kernel
theorem dX12_doesMatch_31 : decode cX12_doesMatch 31 = .ok (.iaload, 1) := by decide +kernel
theorem dX12_doesMatch_32 : decode cX12_doesMatch 32 = .ok (.iand, 1) := by decide +kernel
theorem dX12_doesMatch_33 : decode cX12_doesMatch 33 = .ok (.ifCond .eq 7, 3) := by decide +kernel
theorem dX12_doesMatch_36 : decode cX12_doesMatch 36 = .ok (.iconst 1, 1) := by decide +kernel
theorem dX12_doesMatch_37 : decode cX12_doesMatch 37 = .ok (.goto 4, 3) := by decide +kernel
theorem dX12_doesMatch_40 : decode cX12_doesMatch 40 = .ok (.iconst 0, 1) := by decide +kernel
theorem dX12_doesMatch_41 : decode cX12_doesMatch 41 = .ok (.ireturn, 1) := by decide +kernel
theorem dX12_isStretch_0 : decode cX12_isStretch 0 = .ok (.iload_n 1, 1) := by decide +kernel
theorem dX12_isStretch_1 : decode cX12_isStretch 1 = .ok (.ifCond .lt 23, 3) := by decide +kernel
theorem dX12_isStretch_4 : decode cX12_isStretch 4 = .ok (.iload_n 1, 1) := by decide +kernel
theorem dX12_isStretch_5 : decode cX12_isStretch 5 = .ok (.iload_n 2, 1) := by decide +kernel
theorem dX12_isStretch_6 : decode cX12_isStretch 6 = .ok (.if_icmp .gt 18, 3) := by decide +kernel
theorem dX12_isStretch_9 : decode cX12_isStretch 9 = .ok (.iload_n 2, 1) := by decide +kernel
theorem dX12_isStretch_10 : decode cX12_isStretch 10 = .ok (.aload_n 0, 1) := by decide +kernel
theorem dX12_isStretch_11 : decode cX12_isStretch 11 = .ok (.getfield 9, 3) := by decide +kernel
theorem dX12_isStretch_14 : decode cX12_isStretch 14 = .ok (.bipush 81, 2) := by decide +kernel
theorem dX12_isStretch_16 : decode cX12_isStretch 16 = .ok (.iaload, 1) := by decide +kernel
theorem dX12_isStretch_17 : decode cX12_isStretch 17 = .ok (.if_icmp .gt 7, 3) := by decide +kernel
theorem dX12_isStretch_20 : decode cX12_isStretch 20 = .ok (.iconst 1, 1) := by decide +kernel
theorem dX12_isStretch_21 : decode cX12_isStretch 21 = .ok (.goto 4, 3) := by decide +kernel
theorem dX12_isStretch_24 : decode cX12_isStretch 24 = .ok (.iconst 0, 1) := by decide +kernel
theorem dX12_isStretch_25 : decode cX12_isStretch 25 = .ok (.ireturn, 1) := by decide +kernel
theorem dX12_matches_0 : decode cX12_matches 0 = .ok (.aload_n 0, 1) := by decide +kernel
theorem dX12_matches_1 : decode cX12_matches 1 = .ok (.iconst 0, 1) := by decide +kernel
theorem dX12_matches_2 : decode cX12_matches 2 = .ok (.putfield 123, 3) := by decide +kernel
theorem dX12_matches_5 : decode cX12_matches 5 = .ok (.aload_n 0, 1) := by decide +kernel
theorem dX12_matches_6 : decode cX12_matches 6 = .ok (.iload_n 1, 1) := by decide +kernel
theorem dX12_matches_7 : decode cX12_matches 7 = .ok (.iload_n 2, 1) := by decide +kernel
theorem dX12_matches_8 : decode cX12_matches 8 = .ok (.invokevirtual 306, 3) := by decide +kernel
theorem dX12_matches_11 : decode cX12_matches 11 = .ok (.ifCond .ne 5, 3) := by decide +kernel
theorem dX12_matches_14 : decode cX12_matches 14 = .ok (.iconst (-1), 1) := by decide +kernel
theorem dX12_matches_15 : decode cX12_matches 15 = .ok (.ireturn, 1) := by decide +kernel
theorem dX12_matches_16 : decode cX12_matches 16 = .ok (.iconst 0, 1) := by decide +kernel
theorem dX12_matches_17 : decode cX12_matches 17 = .ok (.istore_n 3, 1) := by decide +kernel
theorem dX12_matches_18 : decode cX12_matches 18 = .ok (.iconst 0, 1) := by decide +kernel
theorem dX12_matches_19 : decode cX12_matches 19 = .ok (.istore 4, 2) := by decide +kernel
theorem dX12_matches_21 : decode cX12_matches 21 = .ok (.iload 4, 2) := by decide +kernel
theorem dX12_matches_23 : decode cX12_matches 23 = .ok (.aload_n 0, 1) := by decide +kernel
theorem dX12_matches_24 : decode cX12_matches 24 = .ok (.getfield 202, 3) := by decide +kernel
theorem dX12_matches_27 : decode cX12_matches 27 = .ok (.if_icmp .ge 31, 3) := by decide +kernel
theorem dX12_matches_30 : decode cX12_matches 30 = .ok (.iload_n 3, 1) := by decide +kernel
theorem dX12_matches_31 : decode cX12_matches 31 = .ok (.aload_n 0, 1) := by decide +kernel
theorem dX12_matches_32 : decode cX12_matches 32 = .ok (.iload 4, 2) := by decide +kernel
theorem dX12_matches_34 : decode cX12_matches 34 = .ok (.iload_n 1, 1) := by decide +kernel
theorem dX12_matches_35 : decode cX12_matches 35 = .ok (.iload_n 2, 1) := by decide +kernel
theorem dX12_matches_36 : decode cX12_matches 36 = .ok (.invokevirtual 310, 3) := by decide +kernel
theorem dX12_matches_39 : decode cX12_matches 39 = .ok (.ifCond .eq 10, 3) := by decide +kernel
theorem dX12_matches_42 : decode cX12_matches 42 = .ok (.iconst 1, 1) := by decide +kernel
theorem dX12_matches_43 : decode cX12_matches 43 = .ok (.iload 4, 2) := by decide +kernel
theorem dX12_matches_45 : decode cX12_matches 45 = .ok (.ishl, 1) := by decide +kernel
theorem dX12_matches_46 : decode cX12_matches 46 = .ok (.goto 4, 3) := by decide +kernel
theorem dX12_matches_49 : decode cX12_matches 49 = .ok (.iconst 0, 1) := by decide +kernel
theorem dX12_matches_50 : decode cX12_matches 50 = .ok (.ior, 1) := by decide +kernel
theorem dX12_matches_51 : decode cX12_matches 51 = .ok (.istore_n 3, 1) := by decide +kernel
theorem dX12_matches_52 : decode cX12_matches 52 = .ok (.iinc 4 1, 3) := by decide +kernel
theorem dX12_matches_55 : decode cX12_matches 55 = .ok (.goto (-34), 3) := by decide +kernel
theorem dX12_matches_58 : decode cX12_matches 58 = .ok (.aload_n 0, 1) := by decide +kernel
theorem dX12_matches_59 : decode cX12_matches 59 = .ok (.iconst 0, 1) := by decide +kernel
theorem dX12_matches_60 : decode cX12_matches 60 = .ok (.putfield 127, 3) := by decide +kernel
theorem dX12_matches_63 : decode cX12_matches 63 = .ok (.iconst 0, 1) := by decide +kernel
theorem dX12_matches_64 : decode cX12_matches 64 = .ok (.istore 4, 2) := by decide +kernel
theorem dX12_matches_66 : decode cX12_matches 66 = .ok (.iload 4, 2) := by decide +kernel
theorem dX12_matches_68 : decode cX12_matches 68 = .ok (.iconst 4, 1) := by decide +kernel
theorem dX12_matches_69 : decode cX12_matches 69 = .ok (.if_icmp .ge 64, 3) := by decide +kernel
theorem dX12_matches_72 : decode cX12_matches 72 = .ok (.iconst (-1), 1) := by decide +kernel
theorem dX12_matches_73 : decode cX12_matches 73 = .ok (.istore 5, 2) := by decide +kernel
theorem dX12_matches_75 : decode cX12_matches 75 = .ok (.aload_n 0, 1) := by decide +kernel
theorem dX12_matches_76 : decode cX12_matches 76 = .ok (.getfield 202, 3) := by decide +kernel
theorem dX12_matches_79 : decode cX12_matches 79 = .ok (.iconst 1, 1) := by decide +kernel
theorem dX12_matches_80 : decode cX12_matches 80 = .ok (.isub, 1) := by decide +kernel
theorem dX12_matches_81 : decode cX12_matches 81 = .ok (.istore 6, 2) := by decide +kernel
theorem dX12_matches_83 : decode cX12_matches 83 = .ok (.iload 6, 2) := by decide +kernel
theorem dX12_matches_85 : decode cX12_matches 85 = .ok (.ifCond .lt 35, 3) := by decide +kernel
theorem dX12_matches_88 : decode cX12_matches 88 = .ok (.aload_n 0, 1) := by decide +kernel
theorem dX12_matches_89 : decode cX12_matches 89 = .ok (.getfield 24, 3) := by decide +kernel
theorem dX12_matches_92 : decode cX12_matches 92 = .ok (.iload 6, 2) := by decide +kernel
theorem dX12_matches_94 : decode cX12_matches 94 = .ok (.iaload, 1) := by decide +kernel
theorem dX12_matches_95 : decode cX12_matches 95 = .ok (.iload 4, 2) := by decide +kernel
theorem dX12_matches_97 : decode cX12_matches 97 = .ok (.if_icmp .ne 17, 3) := by decide +kernel
theorem dX12_matches_100 : decode cX12_matches 100 = .ok (.iload_n 3, 1) := by decide +kernel
theorem dX12_matches_101 : decode cX12_matches 101 = .ok (.iload 6, 2) := by decide +kernel
theorem dX12_matches_103 : decode cX12_matches 103 = .ok (.ishr, 1) := by decide +kernel
theorem dX12_matches_104 : decode cX12_matches 104 = .ok (.iconst 1, 1) := by decide +kernel
theorem dX12_matches_105 : decode cX12_matches 105 = .ok (.iand, 1) := by decide +kernel
theorem dX12_matches_106 : decode cX12_matches 106 = .ok (.iconst 1, 1) := by decide +kernel
theorem dX12_matches_107 : decode cX12_matches 107 = .ok (.if_icmp .ne 7, 3) := by decide +kernel
theorem dX12_matches_110 : decode cX12_matches 110 = .ok (.iload 6, 2) := by decide +kernel
theorem dX12_matches_112 : decode cX12_matches 112 = .ok (.istore 5, 2) := by decide +kernel
theorem dX12_matches_114 : decode cX12_matches 114 = .ok (.iinc 6 (-1), 3) := by decide +kernel
theorem dX12_matches_117 : decode cX12_matches 117 = .ok (.goto (-34), 3) := by decide +kernel
theorem dX12_matches_120 : decode cX12_matches 120 = .ok (.aload_n 0, 1) := by decide +kernel
theorem dX12_matches_121 : decode cX12_matches 121 = .ok (.iload 5, 2) := by decide +kernel
theorem dX12_matches_123 : decode cX12_matches 123 = .ok (.i2l, 1) := by decide +kernel
theorem dX12_matches_124 : decode cX12_matches 124 = .ok (.invokevirtual 280, 3) := by decide +kernel
theorem dX12_matches_127 : decode cX12_matches 127 = .ok (.iinc 4 1, 3) := by decide +kernel
theorem dX12_matches_130 : decode cX12_matches 130 = .ok (.goto (-64), 3) := by decide +kernel
theorem dX12_matches_133 : decode cX12_matches 133 = .ok (.iload_n 3, 1) := by decide +kernel
theorem dX12_matches_134 : decode cX12_matches 134 = .ok (.ireturn, 1) := by decide +kernel
theorem dX12_stands_0 : decode cX12_stands 0 = .ok (.aload_n 0, 1) := by decide +kernel
theorem dX12_stands_1 : decode cX12_stands 1 = .ok (.iconst 0, 1) := by decide +kernel
theorem dX12_stands_2 : decode cX12_stands 2 = .ok (.putfield 123, 3) := by decide +kernel
theorem dX12_stands_5 : decode cX12_stands 5 = .ok (.iload_n 1, 1) := by decide +kernel
theorem dX12_stands_6 : decode cX12_stands 6 = .ok (.invokestatic 293, 3) := by decide +kernel
theorem dX12_stands_9 : decode cX12_stands 9 = .ok (.ifCond .eq 17, 3) := by decide +kernel
theorem dX12_stands_12 : decode cX12_stands 12 = .ok (.aload_n 0, 1) := by decide +kernel
theorem dX12_stands_13 : decode cX12_stands 13 = .ok (.iload_n 2, 1) := by decide +kernel
theorem dX12_stands_14 : decode cX12_stands 14 = .ok (.iload_n 3, 1) := by decide +kernel
theorem dX12_stands_15 : decode cX12_stands 15 = .ok (.invokevirtual 306, 3) := by decide +kernel
theorem dX12_stands_18 : decode cX12_stands 18 = .ok (.ifCond .eq 8, 3) := by decide +kernel
theorem dX12_stands_21 : decode cX12_stands 21 = .ok (.iload_n 2, 1) := by decide +kernel
theorem dX12_stands_22 : decode cX12_stands 22 = .ok (.iload_n 3, 1) := by decide +kernel
theorem dX12_stands_23 : decode cX12_stands 23 = .ok (.if_icmp .ne 5, 3) := by decide +kernel
theorem dX12_stands_26 : decode cX12_stands 26 = .ok (.iconst (-1), 1) := by decide +kernel
theorem dX12_stands_27 : decode cX12_stands 27 = .ok (.ireturn, 1) := by decide +kernel
theorem dX12_stands_28 : decode cX12_stands 28 = .ok (.aload_n 0, 1) := by decide +kernel
theorem dX12_stands_29 : decode cX12_stands 29 = .ok (.iload_n 1, 1) := by decide +kernel
theorem dX12_stands_30 : decode cX12_stands 30 = .ok (.iload_n 2, 1) := by decide +kernel
theorem dX12_stands_31 : decode cX12_stands 31 = .ok (.iload_n 3, 1) := by decide +kernel
theorem dX12_stands_32 : decode cX12_stands 32 = .ok (.invokevirtual 303, 3) := by decide +kernel
theorem dX12_stands_35 : decode cX12_stands 35 = .ok (.istore 4, 2) := by decide +kernel
theorem dX12_stands_37 : decode cX12_stands 37 = .ok (.iconst 0, 1) := by decide +kernel
theorem dX12_stands_38 : decode cX12_stands 38 = .ok (.istore 5, 2) := by decide +kernel
theorem dX12_stands_40 : decode cX12_stands 40 = .ok (.iconst 0, 1) := by decide +kernel
theorem dX12_stands_41 : decode cX12_stands 41 = .ok (.istore 6, 2) := by decide +kernel
theorem dX12_stands_43 : decode cX12_stands 43 = .ok (.iload 6, 2) := by decide +kernel
theorem dX12_stands_45 : decode cX12_stands 45 = .ok (.bipush 8, 2) := by decide +kernel
theorem dX12_stands_47 : decode cX12_stands 47 = .ok (.if_icmp .ge 40, 3) := by decide +kernel
theorem dX12_stands_50 : decode cX12_stands 50 = .ok (.iload 4, 2) := by decide +kernel
theorem dX12_stands_52 : decode cX12_stands 52 = .ok (.ifCond .eq 35, 3) := by decide +kernel
theorem dX12_stands_55 : decode cX12_stands 55 = .ok (.iload 5, 2) := by decide +kernel
theorem dX12_stands_57 : decode cX12_stands 57 = .ok (.aload_n 0, 1) := by decide +kernel
theorem dX12_stands_58 : decode cX12_stands 58 = .ok (.iload_n 1, 1) := by decide +kernel
theorem dX12_stands_59 : decode cX12_stands 59 = .ok (.iload 4, 2) := by decide +kernel
theorem dX12_stands_61 : decode cX12_stands 61 = .ok (.iconst 0, 1) := by decide +kernel
theorem dX12_stands_62 : decode cX12_stands 62 = .ok (.iload 6, 2) := by decide +kernel
theorem dX12_stands_64 : decode cX12_stands 64 = .ok (.invokevirtual 250, 3) := by decide +kernel
theorem dX12_stands_67 : decode cX12_stands 67 = .ok (.ifCond .eq 10, 3) := by decide +kernel
theorem dX12_stands_70 : decode cX12_stands 70 = .ok (.iconst 1, 1) := by decide +kernel
theorem dX12_stands_71 : decode cX12_stands 71 = .ok (.iload 6, 2) := by decide +kernel
theorem dX12_stands_73 : decode cX12_stands 73 = .ok (.ishl, 1) := by decide +kernel
theorem dX12_stands_74 : decode cX12_stands 74 = .ok (.goto 4, 3) := by decide +kernel
theorem dX12_stands_77 : decode cX12_stands 77 = .ok (.iconst 0, 1) := by decide +kernel
theorem dX12_stands_78 : decode cX12_stands 78 = .ok (.ior, 1) := by decide +kernel
theorem dX12_stands_79 : decode cX12_stands 79 = .ok (.istore 5, 2) := by decide +kernel
theorem dX12_stands_81 : decode cX12_stands 81 = .ok (.iinc 6 1, 3) := by decide +kernel
theorem dX12_stands_84 : decode cX12_stands 84 = .ok (.goto (-41), 3) := by decide +kernel
theorem dX12_stands_87 : decode cX12_stands 87 = .ok (.aload_n 0, 1) := by decide +kernel
theorem dX12_stands_88 : decode cX12_stands 88 = .ok (.iconst 0, 1) := by decide +kernel
theorem dX12_stands_89 : decode cX12_stands 89 = .ok (.putfield 127, 3) := by decide +kernel
theorem dX12_stands_92 : decode cX12_stands 92 = .ok (.aload_n 0, 1) := by decide +kernel
theorem dX12_stands_93 : decode cX12_stands 93 = .ok (.iload 5, 2) := by decide +kernel
theorem dX12_stands_95 : decode cX12_stands 95 = .ok (.i2l, 1) := by decide +kernel
theorem dX12_stands_96 : decode cX12_stands 96 = .ok (.invokevirtual 280, 3) := by decide +kernel
theorem dX12_stands_99 : decode cX12_stands 99 = .ok (.iload 4, 2) := by decide +kernel
theorem dX12_stands_101 : decode cX12_stands 101 = .ok (.invokestatic 313, 3) := by decide +kernel
theorem dX12_stands_104 : decode cX12_stands 104 = .ok (.ireturn, 1) := by decide +kernel
theorem dX12_find_0 : decode cX12_find 0 = .ok (.iload_n 1, 1) := by decide +kernel
theorem dX12_find_1 : decode cX12_find 1 = .ok (.ifCond .eq 12, 3) := by decide +kernel
theorem dX12_find_4 : decode cX12_find 4 = .ok (.aload_n 0, 1) := by decide +kernel
theorem dX12_find_5 : decode cX12_find 5 = .ok (.getfield 92, 3) := by decide +kernel
theorem dX12_find_8 : decode cX12_find 8 = .ok (.iload_n 1, 1) := by decide +kernel
theorem dX12_find_9 : decode cX12_find 9 = .ok (.baload, 1) := by decide +kernel
theorem dX12_find_10 : decode cX12_find 10 = .ok (.ifCond .eq 4, 3) := by decide +kernel
theorem dX12_find_13 : decode cX12_find 13 = .ok (.return_, 1) := by decide +kernel
theorem dX12_find_14 : decode cX12_find 14 = .ok (.aload_n 0, 1) := by decide +kernel
theorem dX12_find_15 : decode cX12_find 15 = .ok (.getfield 92, 3) := by decide +kernel
theorem dX12_find_18 : decode cX12_find 18 = .ok (.iload_n 1, 1) := by decide +kernel
theorem dX12_find_19 : decode cX12_find 19 = .ok (.iconst 1, 1) := by decide +kernel
theorem dX12_find_20 : decode cX12_find 20 = .ok (.bastore, 1) := by decide +kernel
theorem dX12_find_21 : decode cX12_find 21 = .ok (.aload_n 0, 1) := by decide +kernel
theorem dX12_find_22 : decode cX12_find 22 = .ok (.getfield 83, 3) := by decide +kernel
theorem dX12_find_25 : decode cX12_find 25 = .ok (.aload_n 0, 1) := by decide +kernel
theorem dX12_find_26 : decode cX12_find 26 = .ok (.getfield 319, 3) := by decide +kernel
theorem dX12_find_29 : decode cX12_find 29 = .ok (.iload_n 1, 1) := by decide +kernel
theorem dX12_find_30 : decode cX12_find 30 = .ok (.iastore, 1) := by decide +kernel
theorem dX12_find_31 : decode cX12_find 31 = .ok (.aload_n 0, 1) := by decide +kernel
theorem dX12_find_32 : decode cX12_find 32 = .ok (.getfield 86, 3) := by decide +kernel
theorem dX12_find_35 : decode cX12_find 35 = .ok (.aload_n 0, 1) := by decide +kernel
theorem dX12_find_36 : decode cX12_find 36 = .ok (.getfield 319, 3) := by decide +kernel
theorem dX12_find_39 : decode cX12_find 39 = .ok (.iload_n 2, 1) := by decide +kernel
theorem dX12_find_40 : decode cX12_find 40 = .ok (.iastore, 1) := by decide +kernel
theorem dX12_find_41 : decode cX12_find 41 = .ok (.aload_n 0, 1) := by decide +kernel
theorem dX12_find_42 : decode cX12_find 42 = .ok (.getfield 89, 3) := by decide +kernel
theorem dX12_find_45 : decode cX12_find 45 = .ok (.aload_n 0, 1) := by decide +kernel
theorem dX12_find_46 : decode cX12_find 46 = .ok (.getfield 319, 3) := by decide +kernel
theorem dX12_find_49 : decode cX12_find 49 = .ok (.iload_n 3, 1) := by decide +kernel
theorem dX12_find_50 : decode cX12_find 50 = .ok (.iastore, 1) := by decide +kernel
theorem dX12_find_51 : decode cX12_find 51 = .ok (.aload_n 0, 1) := by decide +kernel
theorem dX12_find_52 : decode cX12_find 52 = .ok (.dup, 1) := by decide +kernel
theorem dX12_find_53 : decode cX12_find 53 = .ok (.getfield 319, 3) := by decide +kernel
theorem dX12_find_56 : decode cX12_find 56 = .ok (.iconst 1, 1) := by decide +kernel
theorem dX12_find_57 : decode cX12_find 57 = .ok (.iadd, 1) := by decide +kernel
theorem dX12_find_58 : decode cX12_find 58 = .ok (.putfield 319, 3) := by decide +kernel
theorem dX12_find_61 : decode cX12_find 61 = .ok (.return_, 1) := by decide +kernel
theorem dX12_layFound_0 : decode cX12_layFound 0 = .ok (.aload_n 0, 1) := by decide +kernel
theorem dX12_layFound_1 : decode cX12_layFound 1 = .ok (.iconst 0, 1) := by decide +kernel
theorem dX12_layFound_2 : decode cX12_layFound 2 = .ok (.putfield 319, 3) := by decide +kernel
theorem dX12_layFound_5 : decode cX12_layFound 5 = .ok (.iconst 0, 1) := by decide +kernel
theorem dX12_layFound_6 : decode cX12_layFound 6 = .ok (.istore_n 2, 1) := by decide +kernel
theorem dX12_layFound_7 : decode cX12_layFound 7 = .ok (.iload_n 2, 1) := by decide +kernel
theorem dX12_layFound_8 : decode cX12_layFound 8 = .ok (.sipush 1024, 3) := by decide +kernel
theorem dX12_layFound_11 : decode cX12_layFound 11 = .ok (.if_icmp .ge 16, 3) := by decide +kernel
theorem dX12_layFound_14 : decode cX12_layFound 14 = .ok (.aload_n 0, 1) := by decide +kernel
theorem dX12_layFound_15 : decode cX12_layFound 15 = .ok (.getfield 92, 3) := by decide +kernel
theorem dX12_layFound_18 : decode cX12_layFound 18 = .ok (.iload_n 2, 1) := by decide +kernel
theorem dX12_layFound_19 : decode cX12_layFound 19 = .ok (.iconst 0, 1) := by decide +kernel
theorem dX12_layFound_20 : decode cX12_layFound 20 = .ok (.bastore, 1) := by decide +kernel
theorem dX12_layFound_21 : decode cX12_layFound 21 = .ok (.iinc 2 1, 3) := by decide +kernel
theorem dX12_layFound_24 : decode cX12_layFound 24 = .ok (.goto (-17), 3) := by decide +kernel
theorem dX12_layFound_27 : decode cX12_layFound 27 = .ok (.iconst 0, 1) := by decide +kernel
theorem dX12_layFound_28 : decode cX12_layFound 28 = .ok (.istore_n 2, 1) := by decide +kernel
theorem dX12_layFound_29 : decode cX12_layFound 29 = .ok (.iload_n 2, 1) := by decide +kernel
theorem dX12_layFound_30 : decode cX12_layFound 30 = .ok (.bipush 8, 2) := by decide +kernel
theorem dX12_layFound_32 : decode cX12_layFound 32 = .ok (.if_icmp .ge 23, 3) := by decide +kernel
theorem dX12_layFound_35 : decode cX12_layFound 35 = .ok (.aload_n 0, 1) := by decide +kernel
theorem dX12_layFound_36 : decode cX12_layFound 36 = .ok (.aload_n 0, 1) := by decide +kernel
theorem dX12_layFound_37 : decode cX12_layFound 37 = .ok (.iload_n 1, 1) := by decide +kernel
theorem dX12_layFound_38 : decode cX12_layFound 38 = .ok (.iconst 0, 1) := by decide +kernel
theorem dX12_layFound_39 : decode cX12_layFound 39 = .ok (.iconst 1, 1) := by decide +kernel
theorem dX12_layFound_40 : decode cX12_layFound 40 = .ok (.iload_n 2, 1) := by decide +kernel
theorem dX12_layFound_41 : decode cX12_layFound 41 = .ok (.invokevirtual 250, 3) := by decide +kernel
theorem dX12_layFound_44 : decode cX12_layFound 44 = .ok (.iconst (-1), 1) := by decide +kernel
theorem dX12_layFound_45 : decode cX12_layFound 45 = .ok (.iload_n 2, 1) := by decide +kernel
theorem dX12_layFound_46 : decode cX12_layFound 46 = .ok (.invokevirtual 322, 3) := by decide +kernel
theorem dX12_layFound_49 : decode cX12_layFound 49 = .ok (.iinc 2 1, 3) := by decide +kernel
theorem dX12_layFound_52 : decode cX12_layFound 52 = .ok (.goto (-23), 3) := by decide +kernel
theorem dX12_layFound_55 : decode cX12_layFound 55 = .ok (.iconst 0, 1) := by decide +kernel
theorem dX12_layFound_56 : decode cX12_layFound 56 = .ok (.istore_n 2, 1) := by decide +kernel
theorem dX12_layFound_57 : decode cX12_layFound 57 = .ok (.iload_n 2, 1) := by decide +kernel
theorem dX12_layFound_58 : decode cX12_layFound 58 = .ok (.aload_n 0, 1) := by decide +kernel
theorem dX12_layFound_59 : decode cX12_layFound 59 = .ok (.getfield 319, 3) := by decide +kernel
theorem dX12_layFound_62 : decode cX12_layFound 62 = .ok (.if_icmp .ge 42, 3) := by decide +kernel
theorem dX12_layFound_65 : decode cX12_layFound 65 = .ok (.iconst 0, 1) := by decide +kernel
theorem dX12_layFound_66 : decode cX12_layFound 66 = .ok (.istore_n 3, 1) := by decide +kernel
theorem dX12_layFound_67 : decode cX12_layFound 67 = .ok (.iload_n 3, 1) := by decide +kernel
theorem dX12_layFound_68 : decode cX12_layFound 68 = .ok (.bipush 8, 2) := by decide +kernel
theorem dX12_layFound_70 : decode cX12_layFound 70 = .ok (.if_icmp .ge 28, 3) := by decide +kernel
theorem dX12_layFound_73 : decode cX12_layFound 73 = .ok (.aload_n 0, 1) := by decide +kernel
theorem dX12_layFound_74 : decode cX12_layFound 74 = .ok (.aload_n 0, 1) := by decide +kernel
theorem dX12_layFound_75 : decode cX12_layFound 75 = .ok (.iload_n 1, 1) := by decide +kernel
theorem dX12_layFound_76 : decode cX12_layFound 76 = .ok (.aload_n 0, 1) := by decide +kernel
theorem dX12_layFound_77 : decode cX12_layFound 77 = .ok (.getfield 83, 3) := by decide +kernel
theorem dX12_layFound_80 : decode cX12_layFound 80 = .ok (.iload_n 2, 1) := by decide +kernel
theorem dX12_layFound_81 : decode cX12_layFound 81 = .ok (.iaload, 1) := by decide +kernel
theorem dX12_layFound_82 : decode cX12_layFound 82 = .ok (.iconst 0, 1) := by decide +kernel
theorem dX12_layFound_83 : decode cX12_layFound 83 = .ok (.iload_n 3, 1) := by decide +kernel
theorem dX12_layFound_84 : decode cX12_layFound 84 = .ok (.invokevirtual 250, 3) := by decide +kernel
theorem dX12_layFound_87 : decode cX12_layFound 87 = .ok (.iload_n 2, 1) := by decide +kernel
theorem dX12_layFound_88 : decode cX12_layFound 88 = .ok (.iload_n 3, 1) := by decide +kernel
theorem dX12_layFound_89 : decode cX12_layFound 89 = .ok (.invokevirtual 322, 3) := by decide +kernel
theorem dX12_layFound_92 : decode cX12_layFound 92 = .ok (.iinc 3 1, 3) := by decide +kernel
theorem dX12_layFound_95 : decode cX12_layFound 95 = .ok (.goto (-28), 3) := by decide +kernel
theorem dX12_layFound_98 : decode cX12_layFound 98 = .ok (.iinc 2 1, 3) := by decide +kernel
theorem dX12_layFound_101 : decode cX12_layFound 101 = .ok (.goto (-44), 3) := by decide +kernel
theorem dX12_layFound_104 : decode cX12_layFound 104 = .ok (.return_, 1) := by decide +kernel
theorem dX12_states_0 : decode cX12_states 0 = .ok (.aload_n 0, 1) := by decide +kernel
theorem dX12_states_1 : decode cX12_states 1 = .ok (.iconst 0, 1) := by decide +kernel
theorem dX12_states_2 : decode cX12_states 2 = .ok (.putfield 123, 3) := by decide +kernel
theorem dX12_states_5 : decode cX12_states 5 = .ok (.iload_n 1, 1) := by decide +kernel
theorem dX12_states_6 : decode cX12_states 6 = .ok (.invokestatic 293, 3) := by decide +kernel
theorem dX12_states_9 : decode cX12_states 9 = .ok (.ifCond .ne 5, 3) := by decide +kernel
theorem dX12_states_12 : decode cX12_states 12 = .ok (.iconst (-1), 1) := by decide +kernel
theorem dX12_states_13 : decode cX12_states 13 = .ok (.ireturn, 1) := by decide +kernel
theorem dX12_states_14 : decode cX12_states 14 = .ok (.aload_n 0, 1) := by decide +kernel
theorem dX12_states_15 : decode cX12_states 15 = .ok (.iload_n 1, 1) := by decide +kernel
theorem dX12_states_16 : decode cX12_states 16 = .ok (.invokevirtual 325, 3) := by decide +kernel
theorem dX12_states_19 : decode cX12_states 19 = .ok (.iconst 0, 1) := by decide +kernel
theorem dX12_states_20 : decode cX12_states 20 = .ok (.istore_n 2, 1) := by decide +kernel
theorem dX12_states_21 : decode cX12_states 21 = .ok (.iconst 0, 1) := by decide +kernel
theorem dX12_states_22 : decode cX12_states 22 = .ok (.istore_n 3, 1) := by decide +kernel
theorem dX12_states_23 : decode cX12_states 23 = .ok (.iload_n 3, 1) := by decide +kernel
theorem dX12_states_24 : decode cX12_states 24 = .ok (.aload_n 0, 1) := by decide +kernel
theorem dX12_states_25 : decode cX12_states 25 = .ok (.getfield 319, 3) := by decide +kernel
theorem dX12_states_28 : decode cX12_states 28 = .ok (.if_icmp .ge 32, 3) := by decide +kernel
theorem dX12_states_31 : decode cX12_states 31 = .ok (.iload_n 2, 1) := by decide +kernel
theorem dX12_states_32 : decode cX12_states 32 = .ok (.aload_n 0, 1) := by decide +kernel
theorem dX12_states_33 : decode cX12_states 33 = .ok (.iload_n 1, 1) := by decide +kernel
theorem dX12_states_34 : decode cX12_states 34 = .ok (.aload_n 0, 1) := by decide +kernel
theorem dX12_states_35 : decode cX12_states 35 = .ok (.getfield 83, 3) := by decide +kernel
theorem dX12_states_38 : decode cX12_states 38 = .ok (.iload_n 3, 1) := by decide +kernel
theorem dX12_states_39 : decode cX12_states 39 = .ok (.iaload, 1) := by decide +kernel
theorem dX12_states_40 : decode cX12_states 40 = .ok (.invokevirtual 258, 3) := by decide +kernel
theorem dX12_states_43 : decode cX12_states 43 = .ok (.iconst (-1), 1) := by decide +kernel
theorem dX12_states_44 : decode cX12_states 44 = .ok (.if_icmp .eq 7, 3) := by decide +kernel
theorem dX12_states_47 : decode cX12_states 47 = .ok (.iconst 1, 1) := by decide +kernel
theorem dX12_states_48 : decode cX12_states 48 = .ok (.goto 4, 3) := by decide +kernel
theorem dX12_states_51 : decode cX12_states 51 = .ok (.iconst 0, 1) := by decide +kernel
theorem dX12_states_52 : decode cX12_states 52 = .ok (.iadd, 1) := by decide +kernel
theorem dX12_states_53 : decode cX12_states 53 = .ok (.istore_n 2, 1) := by decide +kernel
theorem dX12_states_54 : decode cX12_states 54 = .ok (.iinc 3 1, 3) := by decide +kernel
theorem dX12_states_57 : decode cX12_states 57 = .ok (.goto (-34), 3) := by decide +kernel
theorem dX12_states_60 : decode cX12_states 60 = .ok (.aload_n 0, 1) := by decide +kernel
theorem dX12_states_61 : decode cX12_states 61 = .ok (.iconst 0, 1) := by decide +kernel
theorem dX12_states_62 : decode cX12_states 62 = .ok (.putfield 127, 3) := by decide +kernel
theorem dX12_states_65 : decode cX12_states 65 = .ok (.aload_n 0, 1) := by decide +kernel
theorem dX12_states_66 : decode cX12_states 66 = .ok (.iload_n 2, 1) := by decide +kernel
theorem dX12_states_67 : decode cX12_states 67 = .ok (.i2l, 1) := by decide +kernel
theorem dX12_states_68 : decode cX12_states 68 = .ok (.invokevirtual 280, 3) := by decide +kernel
theorem dX12_states_71 : decode cX12_states 71 = .ok (.aload_n 0, 1) := by decide +kernel
theorem dX12_states_72 : decode cX12_states 72 = .ok (.getfield 319, 3) := by decide +kernel
theorem dX12_states_75 : decode cX12_states 75 = .ok (.ireturn, 1) := by decide +kernel
theorem dX12_tellRow_0 : decode cX12_tellRow 0 = .ok (.iconst 0, 1) := by decide +kernel
theorem dX12_tellRow_1 : decode cX12_tellRow 1 = .ok (.istore_n 2, 1) := by decide +kernel
theorem dX12_tellRow_2 : decode cX12_tellRow 2 = .ok (.iload_n 1, 1) := by decide +kernel
theorem dX12_tellRow_3 : decode cX12_tellRow 3 = .ok (.istore_n 3, 1) := by decide +kernel
theorem dX12_tellRow_4 : decode cX12_tellRow 4 = .ok (.iload_n 3, 1) := by decide +kernel
theorem dX12_tellRow_5 : decode cX12_tellRow 5 = .ok (.iconst (-1), 1) := by decide +kernel
theorem dX12_tellRow_6 : decode cX12_tellRow 6 = .ok (.if_icmp .eq 28, 3) := by decide +kernel
theorem dX12_tellRow_9 : decode cX12_tellRow 9 = .ok (.aload_n 0, 1) := by decide +kernel
theorem dX12_tellRow_10 : decode cX12_tellRow 10 = .ok (.getfield 95, 3) := by decide +kernel
theorem dX12_tellRow_13 : decode cX12_tellRow 13 = .ok (.iload_n 2, 1) := by decide +kernel
theorem dX12_tellRow_14 : decode cX12_tellRow 14 = .ok (.iinc 2 1, 3) := by decide +kernel
theorem dX12_tellRow_17 : decode cX12_tellRow 17 = .ok (.aload_n 0, 1) := by decide +kernel
theorem dX12_tellRow_18 : decode cX12_tellRow 18 = .ok (.getfield 89, 3) := by decide +kernel
theorem dX12_tellRow_21 : decode cX12_tellRow 21 = .ok (.iload_n 3, 1) := by decide +kernel
theorem dX12_tellRow_22 : decode cX12_tellRow 22 = .ok (.iaload, 1) := by decide +kernel
theorem dX12_tellRow_23 : decode cX12_tellRow 23 = .ok (.iastore, 1) := by decide +kernel
theorem dX12_tellRow_24 : decode cX12_tellRow 24 = .ok (.aload_n 0, 1) := by decide +kernel
theorem dX12_tellRow_25 : decode cX12_tellRow 25 = .ok (.getfield 86, 3) := by decide +kernel
theorem dX12_tellRow_28 : decode cX12_tellRow 28 = .ok (.iload_n 3, 1) := by decide +kernel
theorem dX12_tellRow_29 : decode cX12_tellRow 29 = .ok (.iaload, 1) := by decide +kernel
theorem dX12_tellRow_30 : decode cX12_tellRow 30 = .ok (.istore_n 3, 1) := by decide +kernel
theorem dX12_tellRow_31 : decode cX12_tellRow 31 = .ok (.goto (-27), 3) := by decide +kernel
theorem dX12_tellRow_34 : decode cX12_tellRow 34 = .ok (.iload_n 2, 1) := by decide +kernel
theorem dX12_tellRow_35 : decode cX12_tellRow 35 = .ok (.aload_n 0, 1) := by decide +kernel
theorem dX12_tellRow_36 : decode cX12_tellRow 36 = .ok (.getfield 17, 3) := by decide +kernel
theorem dX12_tellRow_39 : decode cX12_tellRow 39 = .ok (.arraylength, 1) := by decide +kernel
theorem dX12_tellRow_40 : decode cX12_tellRow 40 = .ok (.if_icmp .le 5, 3) := by decide +kernel
theorem dX12_tellRow_43 : decode cX12_tellRow 43 = .ok (.iload_n 2, 1) := by decide +kernel
theorem dX12_tellRow_44 : decode cX12_tellRow 44 = .ok (.ireturn, 1) := by decide +kernel
theorem dX12_tellRow_45 : decode cX12_tellRow 45 = .ok (.aload_n 0, 1) := by decide +kernel
theorem dX12_tellRow_46 : decode cX12_tellRow 46 = .ok (.iconst 0, 1) := by decide +kernel
theorem dX12_tellRow_47 : decode cX12_tellRow 47 = .ok (.putfield 127, 3) := by decide +kernel
theorem dX12_tellRow_50 : decode cX12_tellRow 50 = .ok (.iload_n 2, 1) := by decide +kernel
theorem dX12_tellRow_51 : decode cX12_tellRow 51 = .ok (.iconst 1, 1) := by decide +kernel
theorem dX12_tellRow_52 : decode cX12_tellRow 52 = .ok (.isub, 1) := by decide +kernel
theorem dX12_tellRow_53 : decode cX12_tellRow 53 = .ok (.istore_n 3, 1) := by decide +kernel
theorem dX12_tellRow_54 : decode cX12_tellRow 54 = .ok (.iload_n 3, 1) := by decide +kernel
theorem dX12_tellRow_55 : decode cX12_tellRow 55 = .ok (.ifCond .lt 20, 3) := by decide +kernel
theorem dX12_tellRow_58 : decode cX12_tellRow 58 = .ok (.aload_n 0, 1) := by decide +kernel
theorem dX12_tellRow_59 : decode cX12_tellRow 59 = .ok (.aload_n 0, 1) := by decide +kernel
theorem dX12_tellRow_60 : decode cX12_tellRow 60 = .ok (.getfield 95, 3) := by decide +kernel
theorem dX12_tellRow_63 : decode cX12_tellRow 63 = .ok (.iload_n 3, 1) := by decide +kernel
theorem dX12_tellRow_64 : decode cX12_tellRow 64 = .ok (.iaload, 1) := by decide +kernel
theorem dX12_tellRow_65 : decode cX12_tellRow 65 = .ok (.i2l, 1) := by decide +kernel
theorem dX12_tellRow_66 : decode cX12_tellRow 66 = .ok (.invokevirtual 280, 3) := by decide +kernel
theorem dX12_tellRow_69 : decode cX12_tellRow 69 = .ok (.iinc 3 (-1), 3) := by decide +kernel
theorem dX12_tellRow_72 : decode cX12_tellRow 72 = .ok (.goto (-18), 3) := by decide +kernel
theorem dX12_tellRow_75 : decode cX12_tellRow 75 = .ok (.iload_n 2, 1) := by decide +kernel
theorem dX12_tellRow_76 : decode cX12_tellRow 76 = .ok (.ireturn, 1) := by decide +kernel
theorem dX12_isRule_0 : decode cX12_isRule 0 = .ok (.iload_n 1, 1) := by decide +kernel
theorem dX12_isRule_1 : decode cX12_isRule 1 = .ok (.iconst 0, 1) := by decide +kernel
theorem dX12_isRule_2 : decode cX12_isRule 2 = .ok (.aload_n 0, 1) := by decide +kernel
theorem dX12_isRule_3 : decode cX12_isRule 3 = .ok (.getfield 202, 3) := by decide +kernel
theorem dX12_isRule_6 : decode cX12_isRule 6 = .ok (.iconst 1, 1) := by decide +kernel
theorem dX12_isRule_7 : decode cX12_isRule 7 = .ok (.isub, 1) := by decide +kernel
theorem dX12_isRule_8 : decode cX12_isRule 8 = .ok (.invokestatic 133, 3) := by decide +kernel
theorem dX12_isRule_11 : decode cX12_isRule 11 = .ok (.ireturn, 1) := by decide +kernel
theorem dX12_shortest_0 : decode cX12_shortest 0 = .ok (.aload_n 0, 1) := by decide +kernel
theorem dX12_shortest_1 : decode cX12_shortest 1 = .ok (.iconst 0, 1) := by decide +kernel
theorem dX12_shortest_2 : decode cX12_shortest 2 = .ok (.putfield 123, 3) := by decide +kernel
theorem dX12_shortest_5 : decode cX12_shortest 5 = .ok (.aload_n 0, 1) := by decide +kernel
theorem dX12_shortest_6 : decode cX12_shortest 6 = .ok (.iload_n 1, 1) := by decide +kernel
theorem dX12_shortest_7 : decode cX12_shortest 7 = .ok (.invokevirtual 328, 3) := by decide +kernel
theorem dX12_shortest_10 : decode cX12_shortest 10 = .ok (.ifCond .ne 5, 3) := by decide +kernel
theorem dX12_shortest_13 : decode cX12_shortest 13 = .ok (.iconst (-1), 1) := by decide +kernel
theorem dX12_shortest_14 : decode cX12_shortest 14 = .ok (.ireturn, 1) := by decide +kernel
theorem dX12_shortest_15 : decode cX12_shortest 15 = .ok (.aload_n 0, 1) := by decide +kernel
theorem dX12_shortest_16 : decode cX12_shortest 16 = .ok (.aload_n 0, 1) := by decide +kernel
theorem dX12_shortest_17 : decode cX12_shortest 17 = .ok (.getfield 24, 3) := by decide +kernel
theorem dX12_shortest_20 : decode cX12_shortest 20 = .ok (.iload_n 1, 1) := by decide +kernel
theorem dX12_shortest_21 : decode cX12_shortest 21 = .ok (.iaload, 1) := by decide +kernel
theorem dX12_shortest_22 : decode cX12_shortest 22 = .ok (.invokevirtual 325, 3) := by decide +kernel
theorem dX12_shortest_25 : decode cX12_shortest 25 = .ok (.iconst 0, 1) := by decide +kernel
theorem dX12_shortest_26 : decode cX12_shortest 26 = .ok (.istore_n 2, 1) := by decide +kernel
theorem dX12_shortest_27 : decode cX12_shortest 27 = .ok (.iload_n 2, 1) := by decide +kernel
theorem dX12_shortest_28 : decode cX12_shortest 28 = .ok (.aload_n 0, 1) := by decide +kernel
theorem dX12_shortest_29 : decode cX12_shortest 29 = .ok (.getfield 319, 3) := by decide +kernel
theorem dX12_shortest_32 : decode cX12_shortest 32 = .ok (.if_icmp .ge 35, 3) := by decide +kernel
theorem dX12_shortest_35 : decode cX12_shortest 35 = .ok (.aload_n 0, 1) := by decide +kernel
theorem dX12_shortest_36 : decode cX12_shortest 36 = .ok (.aload_n 0, 1) := by decide +kernel
theorem dX12_shortest_37 : decode cX12_shortest 37 = .ok (.getfield 24, 3) := by decide +kernel
theorem dX12_shortest_40 : decode cX12_shortest 40 = .ok (.iload_n 1, 1) := by decide +kernel
theorem dX12_shortest_41 : decode cX12_shortest 41 = .ok (.iaload, 1) := by decide +kernel
theorem dX12_shortest_42 : decode cX12_shortest 42 = .ok (.aload_n 0, 1) := by decide +kernel
theorem dX12_shortest_43 : decode cX12_shortest 43 = .ok (.getfield 83, 3) := by decide +kernel
theorem dX12_shortest_46 : decode cX12_shortest 46 = .ok (.iload_n 2, 1) := by decide +kernel
theorem dX12_shortest_47 : decode cX12_shortest 47 = .ok (.iaload, 1) := by decide +kernel
theorem dX12_shortest_48 : decode cX12_shortest 48 = .ok (.invokevirtual 258, 3) := by decide +kernel
theorem dX12_shortest_51 : decode cX12_shortest 51 = .ok (.iload_n 1, 1) := by decide +kernel
theorem dX12_shortest_52 : decode cX12_shortest 52 = .ok (.if_icmp .ne 9, 3) := by decide +kernel
theorem dX12_shortest_55 : decode cX12_shortest 55 = .ok (.aload_n 0, 1) := by decide +kernel
theorem dX12_shortest_56 : decode cX12_shortest 56 = .ok (.iload_n 2, 1) := by decide +kernel
theorem dX12_shortest_57 : decode cX12_shortest 57 = .ok (.invokevirtual 331, 3) := by decide +kernel
theorem dX12_shortest_60 : decode cX12_shortest 60 = .ok (.ireturn, 1) := by decide +kernel
theorem dX12_shortest_61 : decode cX12_shortest 61 = .ok (.iinc 2 1, 3) := by decide +kernel
theorem dX12_shortest_64 : decode cX12_shortest 64 = .ok (.goto (-37), 3) := by decide +kernel
theorem dX12_shortest_67 : decode cX12_shortest 67 = .ok (.bipush (-2), 2) := by decide +kernel
theorem dX12_shortest_69 : decode cX12_shortest 69 = .ok (.ireturn, 1) := by decide +kernel
theorem dX12_idle_0 : decode cX12_idle 0 = .ok (.aload_n 0, 1) := by decide +kernel
theorem dX12_idle_1 : decode cX12_idle 1 = .ok (.iconst 0, 1) := by decide +kernel
theorem dX12_idle_2 : decode cX12_idle 2 = .ok (.putfield 123, 3) := by decide +kernel
theorem dX12_idle_5 : decode cX12_idle 5 = .ok (.iconst 1, 1) := by decide +kernel
theorem dX12_idle_6 : decode cX12_idle 6 = .ok (.aload_n 0, 1) := by decide +kernel
theorem dX12_idle_7 : decode cX12_idle 7 = .ok (.getfield 202, 3) := by decide +kernel
theorem dX12_idle_10 : decode cX12_idle 10 = .ok (.ishl, 1) := by decide +kernel
theorem dX12_idle_11 : decode cX12_idle 11 = .ok (.iconst 1, 1) := by decide +kernel
theorem dX12_idle_12 : decode cX12_idle 12 = .ok (.isub, 1) := by decide +kernel
theorem dX12_idle_13 : decode cX12_idle 13 = .ok (.istore_n 1, 1) := by decide +kernel
theorem dX12_idle_14 : decode cX12_idle 14 = .ok (.iconst 0, 1) := by decide +kernel
theorem dX12_idle_15 : decode cX12_idle 15 = .ok (.istore_n 2, 1) := by decide +kernel
theorem dX12_idle_16 : decode cX12_idle 16 = .ok (.iload_n 2, 1) := by decide +kernel
theorem dX12_idle_17 : decode cX12_idle 17 = .ok (.iconst 4, 1) := by decide +kernel
theorem dX12_idle_18 : decode cX12_idle 18 = .ok (.if_icmp .ge 63, 3) := by decide +kernel
theorem dX12_idle_21 : decode cX12_idle 21 = .ok (.aload_n 0, 1) := by decide +kernel
theorem dX12_idle_22 : decode cX12_idle 22 = .ok (.iload_n 2, 1) := by decide +kernel
theorem dX12_idle_23 : decode cX12_idle 23 = .ok (.invokevirtual 325, 3) := by decide +kernel
theorem dX12_idle_26 : decode cX12_idle 26 = .ok (.iconst 0, 1) := by decide +kernel
theorem dX12_idle_27 : decode cX12_idle 27 = .ok (.istore_n 3, 1) := by decide +kernel
theorem dX12_idle_28 : decode cX12_idle 28 = .ok (.iload_n 3, 1) := by decide +kernel
theorem dX12_idle_29 : decode cX12_idle 29 = .ok (.aload_n 0, 1) := by decide +kernel
theorem dX12_idle_30 : decode cX12_idle 30 = .ok (.getfield 319, 3) := by decide +kernel
theorem dX12_idle_33 : decode cX12_idle 33 = .ok (.if_icmp .ge 42, 3) := by decide +kernel
theorem dX12_idle_36 : decode cX12_idle 36 = .ok (.aload_n 0, 1) := by decide +kernel
theorem dX12_idle_37 : decode cX12_idle 37 = .ok (.iload_n 2, 1) := by decide +kernel
theorem dX12_idle_38 : decode cX12_idle 38 = .ok (.aload_n 0, 1) := by decide +kernel
theorem dX12_idle_39 : decode cX12_idle 39 = .ok (.getfield 83, 3) := by decide +kernel
theorem dX12_idle_42 : decode cX12_idle 42 = .ok (.iload_n 3, 1) := by decide +kernel
theorem dX12_idle_43 : decode cX12_idle 43 = .ok (.iaload, 1) := by decide +kernel
theorem dX12_idle_44 : decode cX12_idle 44 = .ok (.invokevirtual 258, 3) := by decide +kernel
theorem dX12_idle_47 : decode cX12_idle 47 = .ok (.iconst (-1), 1) := by decide +kernel
theorem dX12_idle_48 : decode cX12_idle 48 = .ok (.if_icmp .eq 21, 3) := by decide +kernel
theorem dX12_idle_51 : decode cX12_idle 51 = .ok (.iload_n 1, 1) := by decide +kernel
theorem dX12_idle_52 : decode cX12_idle 52 = .ok (.iconst 1, 1) := by decide +kernel
theorem dX12_idle_53 : decode cX12_idle 53 = .ok (.aload_n 0, 1) := by decide +kernel
theorem dX12_idle_54 : decode cX12_idle 54 = .ok (.iload_n 2, 1) := by decide +kernel
theorem dX12_idle_55 : decode cX12_idle 55 = .ok (.aload_n 0, 1) := by decide +kernel
theorem dX12_idle_56 : decode cX12_idle 56 = .ok (.getfield 83, 3) := by decide +kernel
theorem dX12_idle_59 : decode cX12_idle 59 = .ok (.iload_n 3, 1) := by decide +kernel
theorem dX12_idle_60 : decode cX12_idle 60 = .ok (.iaload, 1) := by decide +kernel
theorem dX12_idle_61 : decode cX12_idle 61 = .ok (.invokevirtual 258, 3) := by decide +kernel
theorem dX12_idle_64 : decode cX12_idle 64 = .ok (.ishl, 1) := by decide +kernel
theorem dX12_idle_65 : decode cX12_idle 65 = .ok (.iconst (-1), 1) := by decide +kernel
theorem dX12_idle_66 : decode cX12_idle 66 = .ok (.ixor, 1) := by decide +kernel
theorem dX12_idle_67 : decode cX12_idle 67 = .ok (.iand, 1) := by decide +kernel
theorem dX12_idle_68 : decode cX12_idle 68 = .ok (.istore_n 1, 1) := by decide +kernel
theorem dX12_idle_69 : decode cX12_idle 69 = .ok (.iinc 3 1, 3) := by decide +kernel
theorem dX12_idle_72 : decode cX12_idle 72 = .ok (.goto (-44), 3) := by decide +kernel
theorem dX12_idle_75 : decode cX12_idle 75 = .ok (.iinc 2 1, 3) := by decide +kernel
theorem dX12_idle_78 : decode cX12_idle 78 = .ok (.goto (-62), 3) := by decide +kernel
theorem dX12_idle_81 : decode cX12_idle 81 = .ok (.aload_n 0, 1) := by decide +kernel
theorem dX12_idle_82 : decode cX12_idle 82 = .ok (.iconst 0, 1) := by decide +kernel
theorem dX12_idle_83 : decode cX12_idle 83 = .ok (.putfield 127, 3) := by decide +kernel
theorem dX12_idle_86 : decode cX12_idle 86 = .ok (.aload_n 0, 1) := by decide +kernel
theorem dX12_idle_87 : decode cX12_idle 87 = .ok (.iload_n 1, 1) := by decide +kernel
theorem dX12_idle_88 : decode cX12_idle 88 = .ok (.invokestatic 313, 3) := by decide +kernel
theorem dX12_idle_91 : decode cX12_idle 91 = .ok (.i2l, 1) := by decide +kernel
theorem dX12_idle_92 : decode cX12_idle 92 = .ok (.invokevirtual 280, 3) := by decide +kernel
theorem dX12_idle_95 : decode cX12_idle 95 = .ok (.iload_n 1, 1) := by decide +kernel
theorem dX12_idle_96 : decode cX12_idle 96 = .ok (.ireturn, 1) := by decide +kernel
theorem dX12_overlap_0 : decode cX12_overlap 0 = .ok (.aload_n 0, 1) := by decide +kernel
theorem dX12_overlap_1 : decode cX12_overlap 1 = .ok (.iconst 0, 1) := by decide +kernel
theorem dX12_overlap_2 : decode cX12_overlap 2 = .ok (.putfield 123, 3) := by decide +kernel
theorem dX12_overlap_5 : decode cX12_overlap 5 = .ok (.aload_n 0, 1) := by decide +kernel
theorem dX12_overlap_6 : decode cX12_overlap 6 = .ok (.iload_n 1, 1) := by decide +kernel
theorem dX12_overlap_7 : decode cX12_overlap 7 = .ok (.invokevirtual 328, 3) := by decide +kernel
theorem dX12_overlap_10 : decode cX12_overlap 10 = .ok (.ifCond .eq 16, 3) := by decide +kernel
theorem dX12_overlap_13 : decode cX12_overlap 13 = .ok (.aload_n 0, 1) := by decide +kernel
theorem dX12_overlap_14 : decode cX12_overlap 14 = .ok (.iload_n 2, 1) := by decide +kernel
theorem dX12_overlap_15 : decode cX12_overlap 15 = .ok (.invokevirtual 328, 3) := by decide +kernel
theorem dX12_overlap_18 : decode cX12_overlap 18 = .ok (.ifCond .eq 8, 3) := by decide +kernel
theorem dX12_overlap_21 : decode cX12_overlap 21 = .ok (.iload_n 1, 1) := by decide +kernel
theorem dX12_overlap_22 : decode cX12_overlap 22 = .ok (.iload_n 2, 1) := by decide +kernel
theorem dX12_overlap_23 : decode cX12_overlap 23 = .ok (.if_icmp .ne 5, 3) := by decide +kernel
theorem dX12_overlap_26 : decode cX12_overlap 26 = .ok (.iconst (-1), 1) := by decide +kernel
theorem dX12_overlap_27 : decode cX12_overlap 27 = .ok (.ireturn, 1) := by decide +kernel
theorem dX12_overlap_28 : decode cX12_overlap 28 = .ok (.aload_n 0, 1) := by decide +kernel
theorem dX12_overlap_29 : decode cX12_overlap 29 = .ok (.getfield 24, 3) := by decide +kernel
theorem dX12_overlap_32 : decode cX12_overlap 32 = .ok (.iload_n 1, 1) := by decide +kernel
theorem dX12_overlap_33 : decode cX12_overlap 33 = .ok (.iaload, 1) := by decide +kernel
theorem dX12_overlap_34 : decode cX12_overlap 34 = .ok (.aload_n 0, 1) := by decide +kernel
theorem dX12_overlap_35 : decode cX12_overlap 35 = .ok (.getfield 24, 3) := by decide +kernel
theorem dX12_overlap_38 : decode cX12_overlap 38 = .ok (.iload_n 2, 1) := by decide +kernel
theorem dX12_overlap_39 : decode cX12_overlap 39 = .ok (.iaload, 1) := by decide +kernel
theorem dX12_overlap_40 : decode cX12_overlap 40 = .ok (.if_icmp .eq 6, 3) := by decide +kernel
theorem dX12_overlap_43 : decode cX12_overlap 43 = .ok (.bipush (-3), 2) := by decide +kernel
theorem dX12_overlap_45 : decode cX12_overlap 45 = .ok (.ireturn, 1) := by decide +kernel
theorem dX12_overlap_46 : decode cX12_overlap 46 = .ok (.aload_n 0, 1) := by decide +kernel
theorem dX12_overlap_47 : decode cX12_overlap 47 = .ok (.aload_n 0, 1) := by decide +kernel
theorem dX12_overlap_48 : decode cX12_overlap 48 = .ok (.getfield 24, 3) := by decide +kernel
theorem dX12_overlap_51 : decode cX12_overlap 51 = .ok (.iload_n 1, 1) := by decide +kernel
theorem dX12_overlap_52 : decode cX12_overlap 52 = .ok (.iaload, 1) := by decide +kernel
theorem dX12_overlap_53 : decode cX12_overlap 53 = .ok (.invokevirtual 325, 3) := by decide +kernel
theorem dX12_overlap_56 : decode cX12_overlap 56 = .ok (.iconst 0, 1) := by decide +kernel
theorem dX12_overlap_57 : decode cX12_overlap 57 = .ok (.istore_n 3, 1) := by decide +kernel
theorem dX12_overlap_58 : decode cX12_overlap 58 = .ok (.iload_n 3, 1) := by decide +kernel
theorem dX12_overlap_59 : decode cX12_overlap 59 = .ok (.aload_n 0, 1) := by decide +kernel
theorem dX12_overlap_60 : decode cX12_overlap 60 = .ok (.getfield 319, 3) := by decide +kernel
theorem dX12_overlap_63 : decode cX12_overlap 63 = .ok (.if_icmp .ge 47, 3) := by decide +kernel
theorem dX12_overlap_66 : decode cX12_overlap 66 = .ok (.aload_n 0, 1) := by decide +kernel
theorem dX12_overlap_67 : decode cX12_overlap 67 = .ok (.getfield 83, 3) := by decide +kernel
theorem dX12_overlap_70 : decode cX12_overlap 70 = .ok (.iload_n 3, 1) := by decide +kernel
theorem dX12_overlap_71 : decode cX12_overlap 71 = .ok (.iaload, 1) := by decide +kernel
theorem dX12_overlap_72 : decode cX12_overlap 72 = .ok (.aload_n 0, 1) := by decide +kernel
theorem dX12_overlap_73 : decode cX12_overlap 73 = .ok (.getfield 43, 3) := by decide +kernel
theorem dX12_overlap_76 : decode cX12_overlap 76 = .ok (.iload_n 1, 1) := by decide +kernel
theorem dX12_overlap_77 : decode cX12_overlap 77 = .ok (.iaload, 1) := by decide +kernel
theorem dX12_overlap_78 : decode cX12_overlap 78 = .ok (.iand, 1) := by decide +kernel
theorem dX12_overlap_79 : decode cX12_overlap 79 = .ok (.ifCond .eq 25, 3) := by decide +kernel
theorem dX12_overlap_82 : decode cX12_overlap 82 = .ok (.aload_n 0, 1) := by decide +kernel
theorem dX12_overlap_83 : decode cX12_overlap 83 = .ok (.getfield 83, 3) := by decide +kernel
theorem dX12_overlap_86 : decode cX12_overlap 86 = .ok (.iload_n 3, 1) := by decide +kernel
theorem dX12_overlap_87 : decode cX12_overlap 87 = .ok (.iaload, 1) := by decide +kernel
theorem dX12_overlap_88 : decode cX12_overlap 88 = .ok (.aload_n 0, 1) := by decide +kernel
theorem dX12_overlap_89 : decode cX12_overlap 89 = .ok (.getfield 43, 3) := by decide +kernel
theorem dX12_overlap_92 : decode cX12_overlap 92 = .ok (.iload_n 2, 1) := by decide +kernel
theorem dX12_overlap_93 : decode cX12_overlap 93 = .ok (.iaload, 1) := by decide +kernel
theorem dX12_overlap_94 : decode cX12_overlap 94 = .ok (.iand, 1) := by decide +kernel
theorem dX12_overlap_95 : decode cX12_overlap 95 = .ok (.ifCond .eq 9, 3) := by decide +kernel
theorem dX12_overlap_98 : decode cX12_overlap 98 = .ok (.aload_n 0, 1) := by decide +kernel
theorem dX12_overlap_99 : decode cX12_overlap 99 = .ok (.iload_n 3, 1) := by decide +kernel
theorem dX12_overlap_100 : decode cX12_overlap 100 = .ok (.invokevirtual 331, 3) := by decide +kernel
theorem dX12_overlap_103 : decode cX12_overlap 103 = .ok (.ireturn, 1) := by decide +kernel
theorem dX12_overlap_104 : decode cX12_overlap 104 = .ok (.iinc 3 1, 3) := by decide +kernel
theorem dX12_overlap_107 : decode cX12_overlap 107 = .ok (.goto (-49), 3) := by decide +kernel
theorem dX12_overlap_110 : decode cX12_overlap 110 = .ok (.bipush (-2), 2) := by decide +kernel
theorem dX12_overlap_112 : decode cX12_overlap 112 = .ok (.ireturn, 1) := by decide +kernel
theorem dX12_ways_0 : decode cX12_ways 0 = .ok (.aload_n 0, 1) := by decide +kernel
theorem dX12_ways_1 : decode cX12_ways 1 = .ok (.iconst 0, 1) := by decide +kernel
theorem dX12_ways_2 : decode cX12_ways 2 = .ok (.putfield 123, 3) := by decide +kernel
theorem dX12_ways_5 : decode cX12_ways 5 = .ok (.aload_n 0, 1) := by decide +kernel
theorem dX12_ways_6 : decode cX12_ways 6 = .ok (.iload_n 1, 1) := by decide +kernel
theorem dX12_ways_7 : decode cX12_ways 7 = .ok (.iload_n 2, 1) := by decide +kernel
theorem dX12_ways_8 : decode cX12_ways 8 = .ok (.invokevirtual 306, 3) := by decide +kernel
theorem dX12_ways_11 : decode cX12_ways 11 = .ok (.ifCond .ne 5, 3) := by decide +kernel
