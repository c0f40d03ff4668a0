theorem dX0_init_0 : decode cX0_init 0 = .ok (.aload_n 0, 1) := by decide +kernel
theorem dX0_init_1 : decode cX0_init 1 = .ok (.invokespecial 3, 3) := by decide +kernel
theorem dX0_init_4 : decode cX0_init 4 = .ok (.aload_n 0, 1) := by decide +kernel
theorem dX0_init_5 : decode cX0_init 5 = .ok (.bipush 80, 2) := by decide +kernel
theorem dX0_init_7 : decode cX0_init 7 = .ok (.newarray .int, 2) := by decide +kernel
theorem dX0_init_9 : decode cX0_init 9 = .ok (.putfield 9, 3) := by decide +kernel
theorem dX0_init_12 : decode cX0_init 12 = .ok (.aload_n 0, 1) := by decide +kernel
theorem dX0_init_13 : decode cX0_init 13 = .ok (.iconst 0, 1) := by decide +kernel
theorem dX0_init_14 : decode cX0_init 14 = .ok (.putfield 15, 3) := by decide +kernel
theorem dX0_init_17 : decode cX0_init 17 = .ok (.aload_n 0, 1) := by decide +kernel
theorem dX0_init_18 : decode cX0_init 18 = .ok (.new 19, 3) := by decide +kernel
theorem dX0_init_21 : decode cX0_init 21 = .ok (.dup, 1) := by decide +kernel
theorem dX0_init_22 : decode cX0_init 22 = .ok (.invokespecial 21, 3) := by decide +kernel
theorem dX0_init_25 : decode cX0_init 25 = .ok (.putfield 22, 3) := by decide +kernel
theorem dX0_init_28 : decode cX0_init 28 = .ok (.return_, 1) := by decide +kernel
theorem dX0_copy_0 : decode cX0_copy 0 = .ok (.aload_n 1, 1) := by decide +kernel
theorem dX0_copy_1 : decode cX0_copy 1 = .ok (.getfield 9, 3) := by decide +kernel
theorem dX0_copy_4 : decode cX0_copy 4 = .ok (.iconst 0, 1) := by decide +kernel
theorem dX0_copy_5 : decode cX0_copy 5 = .ok (.aload_n 0, 1) := by decide +kernel
theorem dX0_copy_6 : decode cX0_copy 6 = .ok (.getfield 9, 3) := by decide +kernel
theorem dX0_copy_9 : decode cX0_copy 9 = .ok (.iconst 0, 1) := by decide +kernel
theorem dX0_copy_10 : decode cX0_copy 10 = .ok (.bipush 80, 2) := by decide +kernel
theorem dX0_copy_12 : decode cX0_copy 12 = .ok (.invokestatic 26, 3) := by decide +kernel
theorem dX0_copy_15 : decode cX0_copy 15 = .ok (.aload_n 0, 1) := by decide +kernel
theorem dX0_copy_16 : decode cX0_copy 16 = .ok (.aload_n 1, 1) := by decide +kernel
theorem dX0_copy_17 : decode cX0_copy 17 = .ok (.getfield 15, 3) := by decide +kernel
theorem dX0_copy_20 : decode cX0_copy 20 = .ok (.putfield 15, 3) := by decide +kernel
theorem dX0_copy_23 : decode cX0_copy 23 = .ok (.aload_n 0, 1) := by decide +kernel
theorem dX0_copy_24 : decode cX0_copy 24 = .ok (.getfield 22, 3) := by decide +kernel
theorem dX0_copy_27 : decode cX0_copy 27 = .ok (.aload_n 1, 1) := by decide +kernel
theorem dX0_copy_28 : decode cX0_copy 28 = .ok (.getfield 22, 3) := by decide +kernel
theorem dX0_copy_31 : decode cX0_copy 31 = .ok (.invokevirtual 32, 3) := by decide +kernel
theorem dX0_copy_34 : decode cX0_copy 34 = .ok (.return_, 1) := by decide +kernel
theorem dX0_takeRules_0 : decode cX0_takeRules 0 = .ok (.aload_n 1, 1) := by decide +kernel
theorem dX0_takeRules_1 : decode cX0_takeRules 1 = .ok (.getfield 36, 3) := by decide +kernel
theorem dX0_takeRules_4 : decode cX0_takeRules 4 = .ok (.iconst 0, 1) := by decide +kernel
theorem dX0_takeRules_5 : decode cX0_takeRules 5 = .ok (.aload_n 0, 1) := by decide +kernel
theorem dX0_takeRules_6 : decode cX0_takeRules 6 = .ok (.getfield 9, 3) := by decide +kernel
theorem dX0_takeRules_9 : decode cX0_takeRules 9 = .ok (.iconst 0, 1) := by decide +kernel
theorem dX0_takeRules_10 : decode cX0_takeRules 10 = .ok (.bipush 80, 2) := by decide +kernel
theorem dX0_takeRules_12 : decode cX0_takeRules 12 = .ok (.invokestatic 26, 3) := by decide +kernel
theorem dX0_takeRules_15 : decode cX0_takeRules 15 = .ok (.aload_n 0, 1) := by decide +kernel
theorem dX0_takeRules_16 : decode cX0_takeRules 16 = .ok (.aload_n 1, 1) := by decide +kernel
theorem dX0_takeRules_17 : decode cX0_takeRules 17 = .ok (.getfield 41, 3) := by decide +kernel
theorem dX0_takeRules_20 : decode cX0_takeRules 20 = .ok (.putfield 15, 3) := by decide +kernel
theorem dX0_takeRules_23 : decode cX0_takeRules 23 = .ok (.return_, 1) := by decide +kernel
theorem dX1_init_0 : decode cX1_init 0 = .ok (.aload_n 0, 1) := by decide +kernel
theorem dX1_init_1 : decode cX1_init 1 = .ok (.invokespecial 3, 3) := by decide +kernel
theorem dX1_init_4 : decode cX1_init 4 = .ok (.aload_n 0, 1) := by decide +kernel
theorem dX1_init_5 : decode cX1_init 5 = .ok (.bipush 7, 2) := by decide +kernel
theorem dX1_init_7 : decode cX1_init 7 = .ok (.newarray .int, 2) := by decide +kernel
theorem dX1_init_9 : decode cX1_init 9 = .ok (.putfield 9, 3) := by decide +kernel
theorem dX1_init_12 : decode cX1_init 12 = .ok (.aload_n 0, 1) := by decide +kernel
theorem dX1_init_13 : decode cX1_init 13 = .ok (.bipush 7, 2) := by decide +kernel
theorem dX1_init_15 : decode cX1_init 15 = .ok (.newarray .int, 2) := by decide +kernel
theorem dX1_init_17 : decode cX1_init 17 = .ok (.putfield 15, 3) := by decide +kernel
theorem dX1_init_20 : decode cX1_init 20 = .ok (.aload_n 0, 1) := by decide +kernel
theorem dX1_init_21 : decode cX1_init 21 = .ok (.iconst 0, 1) := by decide +kernel
theorem dX1_init_22 : decode cX1_init 22 = .ok (.putfield 18, 3) := by decide +kernel
theorem dX1_init_25 : decode cX1_init 25 = .ok (.aload_n 0, 1) := by decide +kernel
theorem dX1_init_26 : decode cX1_init 26 = .ok (.iconst (-1), 1) := by decide +kernel
theorem dX1_init_27 : decode cX1_init 27 = .ok (.putfield 22, 3) := by decide +kernel
theorem dX1_init_30 : decode cX1_init 30 = .ok (.aload_n 0, 1) := by decide +kernel
theorem dX1_init_31 : decode cX1_init 31 = .ok (.iconst 0, 1) := by decide +kernel
theorem dX1_init_32 : decode cX1_init 32 = .ok (.putfield 25, 3) := by decide +kernel
theorem dX1_init_35 : decode cX1_init 35 = .ok (.aload_n 0, 1) := by decide +kernel
theorem dX1_init_36 : decode cX1_init 36 = .ok (.iconst 0, 1) := by decide +kernel
theorem dX1_init_37 : decode cX1_init 37 = .ok (.putfield 28, 3) := by decide +kernel
theorem dX1_init_40 : decode cX1_init 40 = .ok (.return_, 1) := by decide +kernel
theorem dX1_build_0 : decode cX1_build 0 = .ok (.aload_n 1, 1) := by decide +kernel
theorem dX1_build_1 : decode cX1_build 1 = .ok (.invokevirtual 31, 3) := by decide +kernel
theorem dX1_build_4 : decode cX1_build 4 = .ok (.iconst 1, 1) := by decide +kernel
theorem dX1_build_5 : decode cX1_build 5 = .ok (.istore_n 3, 1) := by decide +kernel
theorem dX1_build_6 : decode cX1_build 6 = .ok (.iconst 0, 1) := by decide +kernel
theorem dX1_build_7 : decode cX1_build 7 = .ok (.istore 4, 2) := by decide +kernel
theorem dX1_build_9 : decode cX1_build 9 = .ok (.iload 4, 2) := by decide +kernel
theorem dX1_build_11 : decode cX1_build 11 = .ok (.aload_n 2, 1) := by decide +kernel
theorem dX1_build_12 : decode cX1_build 12 = .ok (.getfield 36, 3) := by decide +kernel
theorem dX1_build_15 : decode cX1_build 15 = .ok (.if_icmp .ge 95, 3) := by decide +kernel
theorem dX1_build_18 : decode cX1_build 18 = .ok (.iload 4, 2) := by decide +kernel
theorem dX1_build_20 : decode cX1_build 20 = .ok (.bipush 80, 2) := by decide +kernel
theorem dX1_build_22 : decode cX1_build 22 = .ok (.if_icmp .ge 88, 3) := by decide +kernel
theorem dX1_build_25 : decode cX1_build 25 = .ok (.aload_n 2, 1) := by decide +kernel
theorem dX1_build_26 : decode cX1_build 26 = .ok (.getfield 41, 3) := by decide +kernel
theorem dX1_build_29 : decode cX1_build 29 = .ok (.iload 4, 2) := by decide +kernel
theorem dX1_build_31 : decode cX1_build 31 = .ok (.iaload, 1) := by decide +kernel
theorem dX1_build_32 : decode cX1_build 32 = .ok (.istore 5, 2) := by decide +kernel
theorem dX1_build_34 : decode cX1_build 34 = .ok (.iload_n 3, 1) := by decide +kernel
theorem dX1_build_35 : decode cX1_build 35 = .ok (.ifCond .eq 16, 3) := by decide +kernel
theorem dX1_build_38 : decode cX1_build 38 = .ok (.aload_n 0, 1) := by decide +kernel
theorem dX1_build_39 : decode cX1_build 39 = .ok (.aload_n 1, 1) := by decide +kernel
theorem dX1_build_40 : decode cX1_build 40 = .ok (.iload 5, 2) := by decide +kernel
theorem dX1_build_42 : decode cX1_build 42 = .ok (.bipush 48, 2) := by decide +kernel
theorem dX1_build_44 : decode cX1_build 44 = .ok (.isub, 1) := by decide +kernel
theorem dX1_build_45 : decode cX1_build 45 = .ok (.invokevirtual 44, 3) := by decide +kernel
theorem dX1_build_48 : decode cX1_build 48 = .ok (.goto 43, 3) := by decide +kernel
theorem dX1_build_51 : decode cX1_build 51 = .ok (.iload 5, 2) := by decide +kernel
theorem dX1_build_53 : decode cX1_build 53 = .ok (.bipush 59, 2) := by decide +kernel
theorem dX1_build_55 : decode cX1_build 55 = .ok (.if_icmp .ne 11, 3) := by decide +kernel
theorem dX1_build_58 : decode cX1_build 58 = .ok (.aload_n 0, 1) := by decide +kernel
theorem dX1_build_59 : decode cX1_build 59 = .ok (.aload_n 1, 1) := by decide +kernel
theorem dX1_build_60 : decode cX1_build 60 = .ok (.invokevirtual 48, 3) := by decide +kernel
theorem dX1_build_63 : decode cX1_build 63 = .ok (.goto 28, 3) := by decide +kernel
theorem dX1_build_66 : decode cX1_build 66 = .ok (.iload 5, 2) := by decide +kernel
theorem dX1_build_68 : decode cX1_build 68 = .ok (.invokestatic 52, 3) := by decide +kernel
theorem dX1_build_71 : decode cX1_build 71 = .ok (.ifCond .eq 13, 3) := by decide +kernel
theorem dX1_build_74 : decode cX1_build 74 = .ok (.aload_n 0, 1) := by decide +kernel
theorem dX1_build_75 : decode cX1_build 75 = .ok (.aload_n 1, 1) := by decide +kernel
theorem dX1_build_76 : decode cX1_build 76 = .ok (.iload 5, 2) := by decide +kernel
theorem dX1_build_78 : decode cX1_build 78 = .ok (.invokevirtual 58, 3) := by decide +kernel
theorem dX1_build_81 : decode cX1_build 81 = .ok (.goto 10, 3) := by decide +kernel
theorem dX1_build_84 : decode cX1_build 84 = .ok (.aload_n 0, 1) := by decide +kernel
theorem dX1_build_85 : decode cX1_build 85 = .ok (.aload_n 1, 1) := by decide +kernel
theorem dX1_build_86 : decode cX1_build 86 = .ok (.iload 5, 2) := by decide +kernel
theorem dX1_build_88 : decode cX1_build 88 = .ok (.invokevirtual 61, 3) := by decide +kernel
theorem dX1_build_91 : decode cX1_build 91 = .ok (.iload 5, 2) := by decide +kernel
theorem dX1_build_93 : decode cX1_build 93 = .ok (.bipush 59, 2) := by decide +kernel
theorem dX1_build_95 : decode cX1_build 95 = .ok (.if_icmp .ne 7, 3) := by decide +kernel
theorem dX1_build_98 : decode cX1_build 98 = .ok (.iconst 1, 1) := by decide +kernel
theorem dX1_build_99 : decode cX1_build 99 = .ok (.goto 4, 3) := by decide +kernel
theorem dX1_build_102 : decode cX1_build 102 = .ok (.iconst 0, 1) := by decide +kernel
theorem dX1_build_103 : decode cX1_build 103 = .ok (.istore_n 3, 1) := by decide +kernel
theorem dX1_build_104 : decode cX1_build 104 = .ok (.iinc 4 1, 3) := by decide +kernel
theorem dX1_build_107 : decode cX1_build 107 = .ok (.goto (-98), 3) := by decide +kernel
theorem dX1_build_110 : decode cX1_build 110 = .ok (.aload_n 2, 1) := by decide +kernel
theorem dX1_build_111 : decode cX1_build 111 = .ok (.getfield 36, 3) := by decide +kernel
theorem dX1_build_114 : decode cX1_build 114 = .ok (.ifCond .le 8, 3) := by decide +kernel
theorem dX1_build_117 : decode cX1_build 117 = .ok (.aload_n 0, 1) := by decide +kernel
theorem dX1_build_118 : decode cX1_build 118 = .ok (.aload_n 1, 1) := by decide +kernel
theorem dX1_build_119 : decode cX1_build 119 = .ok (.invokevirtual 48, 3) := by decide +kernel
theorem dX1_build_122 : decode cX1_build 122 = .ok (.return_, 1) := by decide +kernel
theorem dX1_beginRule_0 : decode cX1_beginRule 0 = .ok (.aload_n 0, 1) := by decide +kernel
theorem dX1_beginRule_1 : decode cX1_beginRule 1 = .ok (.aload_n 1, 1) := by decide +kernel
theorem dX1_beginRule_2 : decode cX1_beginRule 2 = .ok (.getfield 64, 3) := by decide +kernel
theorem dX1_beginRule_5 : decode cX1_beginRule 5 = .ok (.bipush 8, 2) := by decide +kernel
theorem dX1_beginRule_7 : decode cX1_beginRule 7 = .ok (.if_icmp .ge 10, 3) := by decide +kernel
theorem dX1_beginRule_10 : decode cX1_beginRule 10 = .ok (.aload_n 1, 1) := by decide +kernel
theorem dX1_beginRule_11 : decode cX1_beginRule 11 = .ok (.getfield 64, 3) := by decide +kernel
theorem dX1_beginRule_14 : decode cX1_beginRule 14 = .ok (.goto 5, 3) := by decide +kernel
theorem dX1_beginRule_17 : decode cX1_beginRule 17 = .ok (.bipush 7, 2) := by decide +kernel
theorem dX1_beginRule_19 : decode cX1_beginRule 19 = .ok (.putfield 25, 3) := by decide +kernel
theorem dX1_beginRule_22 : decode cX1_beginRule 22 = .ok (.aload_n 0, 1) := by decide +kernel
theorem dX1_beginRule_23 : decode cX1_beginRule 23 = .ok (.iload_n 2, 1) := by decide +kernel
theorem dX1_beginRule_24 : decode cX1_beginRule 24 = .ok (.invokestatic 67, 3) := by decide +kernel
theorem dX1_beginRule_27 : decode cX1_beginRule 27 = .ok (.ifCond .eq 7, 3) := by decide +kernel
theorem dX1_beginRule_30 : decode cX1_beginRule 30 = .ok (.iload_n 2, 1) := by decide +kernel
theorem dX1_beginRule_31 : decode cX1_beginRule 31 = .ok (.goto 4, 3) := by decide +kernel
theorem dX1_beginRule_34 : decode cX1_beginRule 34 = .ok (.iconst 0, 1) := by decide +kernel
theorem dX1_beginRule_35 : decode cX1_beginRule 35 = .ok (.putfield 28, 3) := by decide +kernel
theorem dX1_beginRule_38 : decode cX1_beginRule 38 = .ok (.aload_n 1, 1) := by decide +kernel
theorem dX1_beginRule_39 : decode cX1_beginRule 39 = .ok (.getfield 70, 3) := by decide +kernel
theorem dX1_beginRule_42 : decode cX1_beginRule 42 = .ok (.aload_n 0, 1) := by decide +kernel
theorem dX1_beginRule_43 : decode cX1_beginRule 43 = .ok (.getfield 25, 3) := by decide +kernel
theorem dX1_beginRule_46 : decode cX1_beginRule 46 = .ok (.aload_n 0, 1) := by decide +kernel
theorem dX1_beginRule_47 : decode cX1_beginRule 47 = .ok (.getfield 28, 3) := by decide +kernel
theorem dX1_beginRule_50 : decode cX1_beginRule 50 = .ok (.iastore, 1) := by decide +kernel
theorem dX1_beginRule_51 : decode cX1_beginRule 51 = .ok (.aload_n 1, 1) := by decide +kernel
theorem dX1_beginRule_52 : decode cX1_beginRule 52 = .ok (.getfield 72, 3) := by decide +kernel
theorem dX1_beginRule_55 : decode cX1_beginRule 55 = .ok (.aload_n 0, 1) := by decide +kernel
theorem dX1_beginRule_56 : decode cX1_beginRule 56 = .ok (.getfield 25, 3) := by decide +kernel
theorem dX1_beginRule_59 : decode cX1_beginRule 59 = .ok (.iconst 0, 1) := by decide +kernel
theorem dX1_beginRule_60 : decode cX1_beginRule 60 = .ok (.iastore, 1) := by decide +kernel
theorem dX1_beginRule_61 : decode cX1_beginRule 61 = .ok (.aload_n 1, 1) := by decide +kernel
theorem dX1_beginRule_62 : decode cX1_beginRule 62 = .ok (.getfield 75, 3) := by decide +kernel
theorem dX1_beginRule_65 : decode cX1_beginRule 65 = .ok (.aload_n 0, 1) := by decide +kernel
theorem dX1_beginRule_66 : decode cX1_beginRule 66 = .ok (.getfield 25, 3) := by decide +kernel
theorem dX1_beginRule_69 : decode cX1_beginRule 69 = .ok (.iconst 0, 1) := by decide +kernel
theorem dX1_beginRule_70 : decode cX1_beginRule 70 = .ok (.iastore, 1) := by decide +kernel
theorem dX1_beginRule_71 : decode cX1_beginRule 71 = .ok (.aload_n 1, 1) := by decide +kernel
theorem dX1_beginRule_72 : decode cX1_beginRule 72 = .ok (.getfield 78, 3) := by decide +kernel
theorem dX1_beginRule_75 : decode cX1_beginRule 75 = .ok (.aload_n 0, 1) := by decide +kernel
theorem dX1_beginRule_76 : decode cX1_beginRule 76 = .ok (.getfield 25, 3) := by decide +kernel
theorem dX1_beginRule_79 : decode cX1_beginRule 79 = .ok (.iconst (-1), 1) := by decide +kernel
theorem dX1_beginRule_80 : decode cX1_beginRule 80 = .ok (.iastore, 1) := by decide +kernel
theorem dX1_beginRule_81 : decode cX1_beginRule 81 = .ok (.aload_n 0, 1) := by decide +kernel
theorem dX1_beginRule_82 : decode cX1_beginRule 82 = .ok (.iconst 0, 1) := by decide +kernel
theorem dX1_beginRule_83 : decode cX1_beginRule 83 = .ok (.putfield 18, 3) := by decide +kernel
theorem dX1_beginRule_86 : decode cX1_beginRule 86 = .ok (.aload_n 0, 1) := by decide +kernel
theorem dX1_beginRule_87 : decode cX1_beginRule 87 = .ok (.iconst (-1), 1) := by decide +kernel
theorem dX1_beginRule_88 : decode cX1_beginRule 88 = .ok (.putfield 22, 3) := by decide +kernel
theorem dX1_beginRule_91 : decode cX1_beginRule 91 = .ok (.aload_n 0, 1) := by decide +kernel
theorem dX1_beginRule_92 : decode cX1_beginRule 92 = .ok (.getfield 9, 3) := by decide +kernel
theorem dX1_beginRule_95 : decode cX1_beginRule 95 = .ok (.iconst 0, 1) := by decide +kernel
theorem dX1_beginRule_96 : decode cX1_beginRule 96 = .ok (.iconst (-1), 1) := by decide +kernel
theorem dX1_beginRule_97 : decode cX1_beginRule 97 = .ok (.iastore, 1) := by decide +kernel
theorem dX1_beginRule_98 : decode cX1_beginRule 98 = .ok (.aload_n 0, 1) := by decide +kernel
theorem dX1_beginRule_99 : decode cX1_beginRule 99 = .ok (.getfield 15, 3) := by decide +kernel
theorem dX1_beginRule_102 : decode cX1_beginRule 102 = .ok (.iconst 0, 1) := by decide +kernel
theorem dX1_beginRule_103 : decode cX1_beginRule 103 = .ok (.iconst (-1), 1) := by decide +kernel
theorem dX1_beginRule_104 : decode cX1_beginRule 104 = .ok (.iastore, 1) := by decide +kernel
theorem dX1_beginRule_105 : decode cX1_beginRule 105 = .ok (.return_, 1) := by decide +kernel
theorem dX1_endRule_0 : decode cX1_endRule 0 = .ok (.aload_n 0, 1) := by decide +kernel
theorem dX1_endRule_1 : decode cX1_endRule 1 = .ok (.aload_n 1, 1) := by decide +kernel
theorem dX1_endRule_2 : decode cX1_endRule 2 = .ok (.invokevirtual 81, 3) := by decide +kernel
theorem dX1_endRule_5 : decode cX1_endRule 5 = .ok (.aload_n 0, 1) := by decide +kernel
theorem dX1_endRule_6 : decode cX1_endRule 6 = .ok (.getfield 15, 3) := by decide +kernel
theorem dX1_endRule_9 : decode cX1_endRule 9 = .ok (.iconst 0, 1) := by decide +kernel
theorem dX1_endRule_10 : decode cX1_endRule 10 = .ok (.iaload, 1) := by decide +kernel
theorem dX1_endRule_11 : decode cX1_endRule 11 = .ok (.istore_n 2, 1) := by decide +kernel
theorem dX1_endRule_12 : decode cX1_endRule 12 = .ok (.aload_n 1, 1) := by decide +kernel
theorem dX1_endRule_13 : decode cX1_endRule 13 = .ok (.getfield 84, 3) := by decide +kernel
theorem dX1_endRule_16 : decode cX1_endRule 16 = .ok (.aload_n 0, 1) := by decide +kernel
theorem dX1_endRule_17 : decode cX1_endRule 17 = .ok (.getfield 28, 3) := by decide +kernel
theorem dX1_endRule_20 : decode cX1_endRule 20 = .ok (.dup2, 1) := by decide +kernel
theorem dX1_endRule_21 : decode cX1_endRule 21 = .ok (.iaload, 1) := by decide +kernel
theorem dX1_endRule_22 : decode cX1_endRule 22 = .ok (.iload_n 2, 1) := by decide +kernel
theorem dX1_endRule_23 : decode cX1_endRule 23 = .ok (.invokestatic 87, 3) := by decide +kernel
theorem dX1_endRule_26 : decode cX1_endRule 26 = .ok (.ior, 1) := by decide +kernel
theorem dX1_endRule_27 : decode cX1_endRule 27 = .ok (.iastore, 1) := by decide +kernel
theorem dX1_endRule_28 : decode cX1_endRule 28 = .ok (.aload_n 1, 1) := by decide +kernel
theorem dX1_endRule_29 : decode cX1_endRule 29 = .ok (.getfield 91, 3) := by decide +kernel
theorem dX1_endRule_32 : decode cX1_endRule 32 = .ok (.aload_n 0, 1) := by decide +kernel
theorem dX1_endRule_33 : decode cX1_endRule 33 = .ok (.getfield 25, 3) := by decide +kernel
theorem dX1_endRule_36 : decode cX1_endRule 36 = .ok (.iload_n 2, 1) := by decide +kernel
theorem dX1_endRule_37 : decode cX1_endRule 37 = .ok (.invokestatic 94, 3) := by decide +kernel
theorem dX1_endRule_40 : decode cX1_endRule 40 = .ok (.iastore, 1) := by decide +kernel
theorem dX1_endRule_41 : decode cX1_endRule 41 = .ok (.aload_n 1, 1) := by decide +kernel
theorem dX1_endRule_42 : decode cX1_endRule 42 = .ok (.getfield 97, 3) := by decide +kernel
theorem dX1_endRule_45 : decode cX1_endRule 45 = .ok (.aload_n 0, 1) := by decide +kernel
theorem dX1_endRule_46 : decode cX1_endRule 46 = .ok (.getfield 25, 3) := by decide +kernel
theorem dX1_endRule_49 : decode cX1_endRule 49 = .ok (.iload_n 2, 1) := by decide +kernel
theorem dX1_endRule_50 : decode cX1_endRule 50 = .ok (.invokestatic 101, 3) := by decide +kernel
theorem dX1_endRule_53 : decode cX1_endRule 53 = .ok (.bastore, 1) := by decide +kernel
theorem dX1_endRule_54 : decode cX1_endRule 54 = .ok (.aload_n 1, 1) := by decide +kernel
theorem dX1_endRule_55 : decode cX1_endRule 55 = .ok (.aload_n 0, 1) := by decide +kernel
theorem dX1_endRule_56 : decode cX1_endRule 56 = .ok (.getfield 25, 3) := by decide +kernel
theorem dX1_endRule_59 : decode cX1_endRule 59 = .ok (.iconst 1, 1) := by decide +kernel
theorem dX1_endRule_60 : decode cX1_endRule 60 = .ok (.iadd, 1) := by decide +kernel
theorem dX1_endRule_61 : decode cX1_endRule 61 = .ok (.putfield 64, 3) := by decide +kernel
theorem dX1_endRule_64 : decode cX1_endRule 64 = .ok (.return_, 1) := by decide +kernel
theorem dX1_take_0 : decode cX1_take 0 = .ok (.iload_n 2, 1) := by decide +kernel
theorem dX1_take_1 : decode cX1_take 1 = .ok (.lookupswitch 160 #[(40, 59), (41, 71), (42, 91), (43, 124), (63, 146), (124, 83)], 59) := by decide +kernel
theorem dX1_take_60 : decode cX1_take 60 = .ok (.aload_n 0, 1) := by decide +kernel
theorem dX1_take_61 : decode cX1_take 61 = .ok (.aload_n 1, 1) := by decide +kernel
theorem dX1_take_62 : decode cX1_take 62 = .ok (.invokevirtual 104, 3) := by decide +kernel
theorem dX1_take_65 : decode cX1_take 65 = .ok (.aload_n 0, 1) := by decide +kernel
theorem dX1_take_66 : decode cX1_take 66 = .ok (.invokevirtual 107, 3) := by decide +kernel
theorem dX1_take_69 : decode cX1_take 69 = .ok (.goto 98, 3) := by decide +kernel
theorem dX1_take_72 : decode cX1_take 72 = .ok (.aload_n 0, 1) := by decide +kernel
theorem dX1_take_73 : decode cX1_take 73 = .ok (.aload_n 1, 1) := by decide +kernel
theorem dX1_take_74 : decode cX1_take 74 = .ok (.invokevirtual 81, 3) := by decide +kernel
theorem dX1_take_77 : decode cX1_take 77 = .ok (.aload_n 0, 1) := by decide +kernel
theorem dX1_take_78 : decode cX1_take 78 = .ok (.invokevirtual 110, 3) := by decide +kernel
theorem dX1_take_81 : decode cX1_take 81 = .ok (.goto 86, 3) := by decide +kernel
theorem dX1_take_84 : decode cX1_take 84 = .ok (.aload_n 0, 1) := by decide +kernel
theorem dX1_take_85 : decode cX1_take 85 = .ok (.aload_n 1, 1) := by decide +kernel
theorem dX1_take_86 : decode cX1_take 86 = .ok (.invokevirtual 81, 3) := by decide +kernel
theorem dX1_take_89 : decode cX1_take 89 = .ok (.goto 78, 3) := by decide +kernel
theorem dX1_take_92 : decode cX1_take 92 = .ok (.aload_n 0, 1) := by decide +kernel
theorem dX1_take_93 : decode cX1_take 93 = .ok (.aload_n 1, 1) := by decide +kernel
theorem dX1_take_94 : decode cX1_take 94 = .ok (.aload_n 0, 1) := by decide +kernel
theorem dX1_take_95 : decode cX1_take 95 = .ok (.getfield 22, 3) := by decide +kernel
theorem dX1_take_98 : decode cX1_take 98 = .ok (.invokestatic 94, 3) := by decide +kernel
theorem dX1_take_101 : decode cX1_take 101 = .ok (.aload_n 0, 1) := by decide +kernel
theorem dX1_take_102 : decode cX1_take 102 = .ok (.getfield 22, 3) := by decide +kernel
theorem dX1_take_105 : decode cX1_take 105 = .ok (.invokestatic 87, 3) := by decide +kernel
theorem dX1_take_108 : decode cX1_take 108 = .ok (.invokevirtual 113, 3) := by decide +kernel
theorem dX1_take_111 : decode cX1_take 111 = .ok (.aload_n 0, 1) := by decide +kernel
theorem dX1_take_112 : decode cX1_take 112 = .ok (.dup, 1) := by decide +kernel
theorem dX1_take_113 : decode cX1_take 113 = .ok (.getfield 22, 3) := by decide +kernel
theorem dX1_take_116 : decode cX1_take 116 = .ok (.ldc 117, 2) := by decide +kernel
theorem dX1_take_118 : decode cX1_take 118 = .ok (.ior, 1) := by decide +kernel
theorem dX1_take_119 : decode cX1_take 119 = .ok (.putfield 22, 3) := by decide +kernel
theorem dX1_take_122 : decode cX1_take 122 = .ok (.goto 45, 3) := by decide +kernel
theorem dX1_take_125 : decode cX1_take 125 = .ok (.aload_n 0, 1) := by decide +kernel
theorem dX1_take_126 : decode cX1_take 126 = .ok (.aload_n 1, 1) := by decide +kernel
theorem dX1_take_127 : decode cX1_take 127 = .ok (.aload_n 0, 1) := by decide +kernel
theorem dX1_take_128 : decode cX1_take 128 = .ok (.getfield 22, 3) := by decide +kernel
theorem dX1_take_131 : decode cX1_take 131 = .ok (.invokestatic 94, 3) := by decide +kernel
theorem dX1_take_134 : decode cX1_take 134 = .ok (.aload_n 0, 1) := by decide +kernel
theorem dX1_take_135 : decode cX1_take 135 = .ok (.getfield 22, 3) := by decide +kernel
theorem dX1_take_138 : decode cX1_take 138 = .ok (.invokestatic 87, 3) := by decide +kernel
theorem dX1_take_141 : decode cX1_take 141 = .ok (.invokevirtual 113, 3) := by decide +kernel
theorem dX1_take_144 : decode cX1_take 144 = .ok (.goto 23, 3) := by decide +kernel
theorem dX1_take_147 : decode cX1_take 147 = .ok (.aload_n 0, 1) := by decide +kernel
theorem dX1_take_148 : decode cX1_take 148 = .ok (.dup, 1) := by decide +kernel
theorem dX1_take_149 : decode cX1_take 149 = .ok (.getfield 22, 3) := by decide +kernel
theorem dX1_take_152 : decode cX1_take 152 = .ok (.ldc 117, 2) := by decide +kernel
theorem dX1_take_154 : decode cX1_take 154 = .ok (.ior, 1) := by decide +kernel
theorem dX1_take_155 : decode cX1_take 155 = .ok (.putfield 22, 3) := by decide +kernel
theorem dX1_take_158 : decode cX1_take 158 = .ok (.goto 9, 3) := by decide +kernel
theorem dX1_take_161 : decode cX1_take 161 = .ok (.aload_n 0, 1) := by decide +kernel
theorem dX1_take_162 : decode cX1_take 162 = .ok (.aload_n 1, 1) := by decide +kernel
theorem dX1_take_163 : decode cX1_take 163 = .ok (.iload_n 2, 1) := by decide +kernel
theorem dX1_take_164 : decode cX1_take 164 = .ok (.invokevirtual 118, 3) := by decide +kernel
theorem dX1_take_167 : decode cX1_take 167 = .ok (.return_, 1) := by decide +kernel
theorem dX1_takeAct_0 : decode cX1_takeAct 0 = .ok (.iload_n 2, 1) := by decide +kernel
theorem dX1_takeAct_1 : decode cX1_takeAct 1 = .ok (.bipush 60, 2) := by decide +kernel
theorem dX1_takeAct_3 : decode cX1_takeAct 3 = .ok (.if_icmp .ne 16, 3) := by decide +kernel
theorem dX1_takeAct_6 : decode cX1_takeAct 6 = .ok (.aload_n 1, 1) := by decide +kernel
theorem dX1_takeAct_7 : decode cX1_takeAct 7 = .ok (.getfield 75, 3) := by decide +kernel
theorem dX1_takeAct_10 : decode cX1_takeAct 10 = .ok (.aload_n 0, 1) := by decide +kernel
theorem dX1_takeAct_11 : decode cX1_takeAct 11 = .ok (.getfield 25, 3) := by decide +kernel
theorem dX1_takeAct_14 : decode cX1_takeAct 14 = .ok (.iconst 1, 1) := by decide +kernel
theorem dX1_takeAct_15 : decode cX1_takeAct 15 = .ok (.iastore, 1) := by decide +kernel
theorem dX1_takeAct_16 : decode cX1_takeAct 16 = .ok (.goto 60, 3) := by decide +kernel
theorem dX1_takeAct_19 : decode cX1_takeAct 19 = .ok (.iload_n 2, 1) := by decide +kernel
theorem dX1_takeAct_20 : decode cX1_takeAct 20 = .ok (.bipush 62, 2) := by decide +kernel
theorem dX1_takeAct_22 : decode cX1_takeAct 22 = .ok (.if_icmp .ne 16, 3) := by decide +kernel
theorem dX1_takeAct_25 : decode cX1_takeAct 25 = .ok (.aload_n 1, 1) := by decide +kernel
theorem dX1_takeAct_26 : decode cX1_takeAct 26 = .ok (.getfield 75, 3) := by decide +kernel
theorem dX1_takeAct_29 : decode cX1_takeAct 29 = .ok (.aload_n 0, 1) := by decide +kernel
theorem dX1_takeAct_30 : decode cX1_takeAct 30 = .ok (.getfield 25, 3) := by decide +kernel
theorem dX1_takeAct_33 : decode cX1_takeAct 33 = .ok (.iconst 2, 1) := by decide +kernel
theorem dX1_takeAct_34 : decode cX1_takeAct 34 = .ok (.iastore, 1) := by decide +kernel
theorem dX1_takeAct_35 : decode cX1_takeAct 35 = .ok (.goto 41, 3) := by decide +kernel
theorem dX1_takeAct_38 : decode cX1_takeAct 38 = .ok (.iload_n 2, 1) := by decide +kernel
theorem dX1_takeAct_39 : decode cX1_takeAct 39 = .ok (.bipush 61, 2) := by decide +kernel
theorem dX1_takeAct_41 : decode cX1_takeAct 41 = .ok (.if_icmp .ne 16, 3) := by decide +kernel
theorem dX1_takeAct_44 : decode cX1_takeAct 44 = .ok (.aload_n 1, 1) := by decide +kernel
theorem dX1_takeAct_45 : decode cX1_takeAct 45 = .ok (.getfield 75, 3) := by decide +kernel
theorem dX1_takeAct_48 : decode cX1_takeAct 48 = .ok (.aload_n 0, 1) := by decide +kernel
theorem dX1_takeAct_49 : decode cX1_takeAct 49 = .ok (.getfield 25, 3) := by decide +kernel
theorem dX1_takeAct_52 : decode cX1_takeAct 52 = .ok (.iconst 3, 1) := by decide +kernel
theorem dX1_takeAct_53 : decode cX1_takeAct 53 = .ok (.iastore, 1) := by decide +kernel
theorem dX1_takeAct_54 : decode cX1_takeAct 54 = .ok (.goto 22, 3) := by decide +kernel
theorem dX1_takeAct_57 : decode cX1_takeAct 57 = .ok (.iload_n 2, 1) := by decide +kernel
theorem dX1_takeAct_58 : decode cX1_takeAct 58 = .ok (.bipush 58, 2) := by decide +kernel
theorem dX1_takeAct_60 : decode cX1_takeAct 60 = .ok (.if_icmp .eq 16, 3) := by decide +kernel
theorem dX1_takeAct_63 : decode cX1_takeAct 63 = .ok (.aload_n 1, 1) := by decide +kernel
theorem dX1_takeAct_64 : decode cX1_takeAct 64 = .ok (.getfield 78, 3) := by decide +kernel
theorem dX1_takeAct_67 : decode cX1_takeAct 67 = .ok (.aload_n 0, 1) := by decide +kernel
theorem dX1_takeAct_68 : decode cX1_takeAct 68 = .ok (.getfield 25, 3) := by decide +kernel
theorem dX1_takeAct_71 : decode cX1_takeAct 71 = .ok (.iload_n 2, 1) := by decide +kernel
theorem dX1_takeAct_72 : decode cX1_takeAct 72 = .ok (.bipush 48, 2) := by decide +kernel
theorem dX1_takeAct_74 : decode cX1_takeAct 74 = .ok (.isub, 1) := by decide +kernel
theorem dX1_takeAct_75 : decode cX1_takeAct 75 = .ok (.iastore, 1) := by decide +kernel
theorem dX1_takeAct_76 : decode cX1_takeAct 76 = .ok (.return_, 1) := by decide +kernel
theorem dX1_addLetter_0 : decode cX1_addLetter 0 = .ok (.aload_n 0, 1) := by decide +kernel
theorem dX1_addLetter_1 : decode cX1_addLetter 1 = .ok (.aload_n 1, 1) := by decide +kernel
theorem dX1_addLetter_2 : decode cX1_addLetter 2 = .ok (.invokevirtual 104, 3) := by decide +kernel
theorem dX1_addLetter_5 : decode cX1_addLetter 5 = .ok (.aload_n 1, 1) := by decide +kernel
theorem dX1_addLetter_6 : decode cX1_addLetter 6 = .ok (.getfield 121, 3) := by decide +kernel
theorem dX1_addLetter_9 : decode cX1_addLetter 9 = .ok (.aload_n 0, 1) := by decide +kernel
theorem dX1_addLetter_10 : decode cX1_addLetter 10 = .ok (.getfield 28, 3) := by decide +kernel
theorem dX1_addLetter_13 : decode cX1_addLetter 13 = .ok (.iaload, 1) := by decide +kernel
theorem dX1_addLetter_14 : decode cX1_addLetter 14 = .ok (.istore_n 3, 1) := by decide +kernel
theorem dX1_addLetter_15 : decode cX1_addLetter 15 = .ok (.iload_n 3, 1) := by decide +kernel
theorem dX1_addLetter_16 : decode cX1_addLetter 16 = .ok (.ifCond .lt 9, 3) := by decide +kernel
theorem dX1_addLetter_19 : decode cX1_addLetter 19 = .ok (.iload_n 3, 1) := by decide +kernel
theorem dX1_addLetter_20 : decode cX1_addLetter 20 = .ok (.bipush 10, 2) := by decide +kernel
theorem dX1_addLetter_22 : decode cX1_addLetter 22 = .ok (.if_icmp .lt 4, 3) := by decide +kernel
theorem dX1_addLetter_25 : decode cX1_addLetter 25 = .ok (.return_, 1) := by decide +kernel
theorem dX1_addLetter_26 : decode cX1_addLetter 26 = .ok (.aload_n 1, 1) := by decide +kernel
theorem dX1_addLetter_27 : decode cX1_addLetter 27 = .ok (.getfield 121, 3) := by decide +kernel
theorem dX1_addLetter_30 : decode cX1_addLetter 30 = .ok (.aload_n 0, 1) := by decide +kernel
theorem dX1_addLetter_31 : decode cX1_addLetter 31 = .ok (.getfield 28, 3) := by decide +kernel
theorem dX1_addLetter_34 : decode cX1_addLetter 34 = .ok (.dup2, 1) := by decide +kernel
theorem dX1_addLetter_35 : decode cX1_addLetter 35 = .ok (.iaload, 1) := by decide +kernel
theorem dX1_addLetter_36 : decode cX1_addLetter 36 = .ok (.iconst 1, 1) := by decide +kernel
theorem dX1_addLetter_37 : decode cX1_addLetter 37 = .ok (.iadd, 1) := by decide +kernel
theorem dX1_addLetter_38 : decode cX1_addLetter 38 = .ok (.iastore, 1) := by decide +kernel
theorem dX1_addLetter_39 : decode cX1_addLetter 39 = .ok (.aload_n 1, 1) := by decide +kernel
theorem dX1_addLetter_40 : decode cX1_addLetter 40 = .ok (.getfield 72, 3) := by decide +kernel
theorem dX1_addLetter_43 : decode cX1_addLetter 43 = .ok (.aload_n 0, 1) := by decide +kernel
theorem dX1_addLetter_44 : decode cX1_addLetter 44 = .ok (.getfield 25, 3) := by decide +kernel
theorem dX1_addLetter_47 : decode cX1_addLetter 47 = .ok (.dup2, 1) := by decide +kernel
theorem dX1_addLetter_48 : decode cX1_addLetter 48 = .ok (.iaload, 1) := by decide +kernel
theorem dX1_addLetter_49 : decode cX1_addLetter 49 = .ok (.iconst 1, 1) := by decide +kernel
theorem dX1_addLetter_50 : decode cX1_addLetter 50 = .ok (.iadd, 1) := by decide +kernel
theorem dX1_addLetter_51 : decode cX1_addLetter 51 = .ok (.iastore, 1) := by decide +kernel
theorem dX1_addLetter_52 : decode cX1_addLetter 52 = .ok (.iconst 1, 1) := by decide +kernel
theorem dX1_addLetter_53 : decode cX1_addLetter 53 = .ok (.iload_n 3, 1) := by decide +kernel
theorem dX1_addLetter_54 : decode cX1_addLetter 54 = .ok (.ishl, 1) := by decide +kernel
theorem dX1_addLetter_55 : decode cX1_addLetter 55 = .ok (.istore 4, 2) := by decide +kernel
theorem dX1_addLetter_57 : decode cX1_addLetter 57 = .ok (.iconst 0, 1) := by decide +kernel
theorem dX1_addLetter_58 : decode cX1_addLetter 58 = .ok (.istore 5, 2) := by decide +kernel
theorem dX1_addLetter_60 : decode cX1_addLetter 60 = .ok (.iload 5, 2) := by decide +kernel
theorem dX1_addLetter_62 : decode cX1_addLetter 62 = .ok (.bipush 8, 2) := by decide +kernel
theorem dX1_addLetter_64 : decode cX1_addLetter 64 = .ok (.if_icmp .ge 45, 3) := by decide +kernel
theorem dX1_addLetter_67 : decode cX1_addLetter 67 = .ok (.aload_n 1, 1) := by decide +kernel
theorem dX1_addLetter_68 : decode cX1_addLetter 68 = .ok (.getfield 124, 3) := by decide +kernel
theorem dX1_addLetter_71 : decode cX1_addLetter 71 = .ok (.aload_n 0, 1) := by decide +kernel
theorem dX1_addLetter_72 : decode cX1_addLetter 72 = .ok (.getfield 28, 3) := by decide +kernel
theorem dX1_addLetter_75 : decode cX1_addLetter 75 = .ok (.aaload, 1) := by decide +kernel
theorem dX1_addLetter_76 : decode cX1_addLetter 76 = .ok (.iload 5, 2) := by decide +kernel
theorem dX1_addLetter_78 : decode cX1_addLetter 78 = .ok (.dup2, 1) := by decide +kernel
theorem dX1_addLetter_79 : decode cX1_addLetter 79 = .ok (.iaload, 1) := by decide +kernel
theorem dX1_addLetter_80 : decode cX1_addLetter 80 = .ok (.iload_n 2, 1) := by decide +kernel
theorem dX1_addLetter_81 : decode cX1_addLetter 81 = .ok (.bipush 46, 2) := by decide +kernel
theorem dX1_addLetter_83 : decode cX1_addLetter 83 = .ok (.if_icmp .eq 12, 3) := by decide +kernel
theorem dX1_addLetter_86 : decode cX1_addLetter 86 = .ok (.iload_n 2, 1) := by decide +kernel
theorem dX1_addLetter_87 : decode cX1_addLetter 87 = .ok (.bipush 97, 2) := by decide +kernel
theorem dX1_addLetter_89 : decode cX1_addLetter 89 = .ok (.iload 5, 2) := by decide +kernel
theorem dX1_addLetter_91 : decode cX1_addLetter 91 = .ok (.iadd, 1) := by decide +kernel
theorem dX1_addLetter_92 : decode cX1_addLetter 92 = .ok (.if_icmp .ne 8, 3) := by decide +kernel
theorem dX1_addLetter_95 : decode cX1_addLetter 95 = .ok (.iload 4, 2) := by decide +kernel
theorem dX1_addLetter_97 : decode cX1_addLetter 97 = .ok (.goto 4, 3) := by decide +kernel
theorem dX1_addLetter_100 : decode cX1_addLetter 100 = .ok (.iconst 0, 1) := by decide +kernel
theorem dX1_addLetter_101 : decode cX1_addLetter 101 = .ok (.ior, 1) := by decide +kernel
theorem dX1_addLetter_102 : decode cX1_addLetter 102 = .ok (.iastore, 1) := by decide +kernel
theorem dX1_addLetter_103 : decode cX1_addLetter 103 = .ok (.iinc 5 1, 3) := by decide +kernel
theorem dX1_addLetter_106 : decode cX1_addLetter 106 = .ok (.goto (-46), 3) := by decide +kernel
theorem dX1_addLetter_109 : decode cX1_addLetter 109 = .ok (.aload_n 0, 1) := by decide +kernel
theorem dX1_addLetter_110 : decode cX1_addLetter 110 = .ok (.iload 4, 2) := by decide +kernel
theorem dX1_addLetter_112 : decode cX1_addLetter 112 = .ok (.iload 4, 2) := by decide +kernel
theorem dX1_addLetter_114 : decode cX1_addLetter 114 = .ok (.bipush 10, 2) := by decide +kernel
theorem dX1_addLetter_116 : decode cX1_addLetter 116 = .ok (.ishl, 1) := by decide +kernel
theorem dX1_addLetter_117 : decode cX1_addLetter 117 = .ok (.ior, 1) := by decide +kernel
theorem dX1_addLetter_118 : decode cX1_addLetter 118 = .ok (.putfield 22, 3) := by decide +kernel
theorem dX1_addLetter_121 : decode cX1_addLetter 121 = .ok (.return_, 1) := by decide +kernel
theorem dX1_openBracket_0 : decode cX1_openBracket 0 = .ok (.aload_n 0, 1) := by decide +kernel
theorem dX1_openBracket_1 : decode cX1_openBracket 1 = .ok (.getfield 18, 3) := by decide +kernel
theorem dX1_openBracket_4 : decode cX1_openBracket 4 = .ok (.bipush 6, 2) := by decide +kernel
theorem dX1_openBracket_6 : decode cX1_openBracket 6 = .ok (.if_icmp .ge 33, 3) := by decide +kernel
theorem dX1_openBracket_9 : decode cX1_openBracket 9 = .ok (.aload_n 0, 1) := by decide +kernel
theorem dX1_openBracket_10 : decode cX1_openBracket 10 = .ok (.dup, 1) := by decide +kernel
theorem dX1_openBracket_11 : decode cX1_openBracket 11 = .ok (.getfield 18, 3) := by decide +kernel
theorem dX1_openBracket_14 : decode cX1_openBracket 14 = .ok (.iconst 1, 1) := by decide +kernel
theorem dX1_openBracket_15 : decode cX1_openBracket 15 = .ok (.iadd, 1) := by decide +kernel
theorem dX1_openBracket_16 : decode cX1_openBracket 16 = .ok (.putfield 18, 3) := by decide +kernel
theorem dX1_openBracket_19 : decode cX1_openBracket 19 = .ok (.aload_n 0, 1) := by decide +kernel
theorem dX1_openBracket_20 : decode cX1_openBracket 20 = .ok (.getfield 9, 3) := by decide +kernel
theorem dX1_openBracket_23 : decode cX1_openBracket 23 = .ok (.aload_n 0, 1) := by decide +kernel
theorem dX1_openBracket_24 : decode cX1_openBracket 24 = .ok (.getfield 18, 3) := by decide +kernel
theorem dX1_openBracket_27 : decode cX1_openBracket 27 = .ok (.iconst (-1), 1) := by decide +kernel
theorem dX1_openBracket_28 : decode cX1_openBracket 28 = .ok (.iastore, 1) := by decide +kernel
theorem dX1_openBracket_29 : decode cX1_openBracket 29 = .ok (.aload_n 0, 1) := by decide +kernel
theorem dX1_openBracket_30 : decode cX1_openBracket 30 = .ok (.getfield 15, 3) := by decide +kernel
theorem dX1_openBracket_33 : decode cX1_openBracket 33 = .ok (.aload_n 0, 1) := by decide +kernel
theorem dX1_openBracket_34 : decode cX1_openBracket 34 = .ok (.getfield 18, 3) := by decide +kernel
theorem dX1_openBracket_37 : decode cX1_openBracket 37 = .ok (.iconst (-1), 1) := by decide +kernel
theorem dX1_openBracket_38 : decode cX1_openBracket 38 = .ok (.iastore, 1) := by decide +kernel
theorem dX1_openBracket_39 : decode cX1_openBracket 39 = .ok (.return_, 1) := by decide +kernel
theorem dX1_closeBracket_0 : decode cX1_closeBracket 0 = .ok (.aload_n 0, 1) := by decide +kernel
theorem dX1_closeBracket_1 : decode cX1_closeBracket 1 = .ok (.aload_n 0, 1) := by decide +kernel
theorem dX1_closeBracket_2 : decode cX1_closeBracket 2 = .ok (.getfield 15, 3) := by decide +kernel
theorem dX1_closeBracket_5 : decode cX1_closeBracket 5 = .ok (.aload_n 0, 1) := by decide +kernel
theorem dX1_closeBracket_6 : decode cX1_closeBracket 6 = .ok (.getfield 18, 3) := by decide +kernel
theorem dX1_closeBracket_9 : decode cX1_closeBracket 9 = .ok (.iaload, 1) := by decide +kernel
theorem dX1_closeBracket_10 : decode cX1_closeBracket 10 = .ok (.putfield 22, 3) := by decide +kernel
theorem dX1_closeBracket_13 : decode cX1_closeBracket 13 = .ok (.aload_n 0, 1) := by decide +kernel
theorem dX1_closeBracket_14 : decode cX1_closeBracket 14 = .ok (.getfield 18, 3) := by decide +kernel
theorem dX1_closeBracket_17 : decode cX1_closeBracket 17 = .ok (.ifCond .le 13, 3) := by decide +kernel
theorem dX1_closeBracket_20 : decode cX1_closeBracket 20 = .ok (.aload_n 0, 1) := by decide +kernel
theorem dX1_closeBracket_21 : decode cX1_closeBracket 21 = .ok (.dup, 1) := by decide +kernel
theorem dX1_closeBracket_22 : decode cX1_closeBracket 22 = .ok (.getfield 18, 3) := by decide +kernel
theorem dX1_closeBracket_25 : decode cX1_closeBracket 25 = .ok (.iconst 1, 1) := by decide +kernel
theorem dX1_closeBracket_26 : decode cX1_closeBracket 26 = .ok (.isub, 1) := by decide +kernel
theorem dX1_closeBracket_27 : decode cX1_closeBracket 27 = .ok (.putfield 18, 3) := by decide +kernel
theorem dX1_closeBracket_30 : decode cX1_closeBracket 30 = .ok (.return_, 1) := by decide +kernel
theorem dX1_endChain_0 : decode cX1_endChain 0 = .ok (.aload_n 0, 1) := by decide +kernel
theorem dX1_endChain_1 : decode cX1_endChain 1 = .ok (.aload_n 1, 1) := by decide +kernel
theorem dX1_endChain_2 : decode cX1_endChain 2 = .ok (.invokevirtual 104, 3) := by decide +kernel
theorem dX1_endChain_5 : decode cX1_endChain 5 = .ok (.aload_n 0, 1) := by decide +kernel
theorem dX1_endChain_6 : decode cX1_endChain 6 = .ok (.getfield 9, 3) := by decide +kernel
theorem dX1_endChain_9 : decode cX1_endChain 9 = .ok (.aload_n 0, 1) := by decide +kernel
theorem dX1_endChain_10 : decode cX1_endChain 10 = .ok (.getfield 18, 3) := by decide +kernel
theorem dX1_endChain_13 : decode cX1_endChain 13 = .ok (.iaload, 1) := by decide +kernel
theorem dX1_endChain_14 : decode cX1_endChain 14 = .ok (.istore_n 2, 1) := by decide +kernel
theorem dX1_endChain_15 : decode cX1_endChain 15 = .ok (.aload_n 0, 1) := by decide +kernel
theorem dX1_endChain_16 : decode cX1_endChain 16 = .ok (.getfield 15, 3) := by decide +kernel
theorem dX1_endChain_19 : decode cX1_endChain 19 = .ok (.aload_n 0, 1) := by decide +kernel
theorem dX1_endChain_20 : decode cX1_endChain 20 = .ok (.getfield 18, 3) := by decide +kernel
theorem dX1_endChain_23 : decode cX1_endChain 23 = .ok (.iaload, 1) := by decide +kernel
theorem dX1_endChain_24 : decode cX1_endChain 24 = .ok (.istore_n 3, 1) := by decide +kernel
theorem dX1_endChain_25 : decode cX1_endChain 25 = .ok (.aload_n 0, 1) := by decide +kernel
theorem dX1_endChain_26 : decode cX1_endChain 26 = .ok (.getfield 15, 3) := by decide +kernel
theorem dX1_endChain_29 : decode cX1_endChain 29 = .ok (.aload_n 0, 1) := by decide +kernel
theorem dX1_endChain_30 : decode cX1_endChain 30 = .ok (.getfield 18, 3) := by decide +kernel
theorem dX1_endChain_33 : decode cX1_endChain 33 = .ok (.iload_n 3, 1) := by decide +kernel
theorem dX1_endChain_34 : decode cX1_endChain 34 = .ok (.iconst (-1), 1) := by decide +kernel
theorem dX1_endChain_35 : decode cX1_endChain 35 = .ok (.if_icmp .ne 7, 3) := by decide +kernel
theorem dX1_endChain_38 : decode cX1_endChain 38 = .ok (.iload_n 2, 1) := by decide +kernel
theorem dX1_endChain_39 : decode cX1_endChain 39 = .ok (.goto 6, 3) := by decide +kernel
theorem dX1_endChain_42 : decode cX1_endChain 42 = .ok (.iload_n 3, 1) := by decide +kernel
theorem dX1_endChain_43 : decode cX1_endChain 43 = .ok (.iload_n 2, 1) := by decide +kernel
theorem dX1_endChain_44 : decode cX1_endChain 44 = .ok (.ior, 1) := by decide +kernel
theorem dX1_endChain_45 : decode cX1_endChain 45 = .ok (.iastore, 1) := by decide +kernel
theorem dX1_endChain_46 : decode cX1_endChain 46 = .ok (.aload_n 0, 1) := by decide +kernel
theorem dX1_endChain_47 : decode cX1_endChain 47 = .ok (.getfield 9, 3) := by decide +kernel
theorem dX1_endChain_50 : decode cX1_endChain 50 = .ok (.aload_n 0, 1) := by decide +kernel
theorem dX1_endChain_51 : decode cX1_endChain 51 = .ok (.getfield 18, 3) := by decide +kernel
theorem dX1_endChain_54 : decode cX1_endChain 54 = .ok (.iconst (-1), 1) := by decide +kernel
theorem dX1_endChain_55 : decode cX1_endChain 55 = .ok (.iastore, 1) := by decide +kernel
theorem dX1_endChain_56 : decode cX1_endChain 56 = .ok (.return_, 1) := by decide +kernel
theorem dX1_endPart_0 : decode cX1_endPart 0 = .ok (.aload_n 0, 1) := by decide +kernel
theorem dX1_endPart_1 : decode cX1_endPart 1 = .ok (.getfield 9, 3) := by decide +kernel
theorem dX1_endPart_4 : decode cX1_endPart 4 = .ok (.aload_n 0, 1) := by decide +kernel
theorem dX1_endPart_5 : decode cX1_endPart 5 = .ok (.getfield 18, 3) := by decide +kernel
theorem dX1_endPart_8 : decode cX1_endPart 8 = .ok (.iaload, 1) := by decide +kernel
theorem dX1_endPart_9 : decode cX1_endPart 9 = .ok (.istore_n 2, 1) := by decide +kernel
theorem dX1_endPart_10 : decode cX1_endPart 10 = .ok (.iload_n 2, 1) := by decide +kernel
theorem dX1_endPart_11 : decode cX1_endPart 11 = .ok (.iconst (-1), 1) := by decide +kernel
theorem dX1_endPart_12 : decode cX1_endPart 12 = .ok (.if_icmp .ne 19, 3) := by decide +kernel
theorem dX1_endPart_15 : decode cX1_endPart 15 = .ok (.aload_n 0, 1) := by decide +kernel
theorem dX1_endPart_16 : decode cX1_endPart 16 = .ok (.getfield 9, 3) := by decide +kernel
theorem dX1_endPart_19 : decode cX1_endPart 19 = .ok (.aload_n 0, 1) := by decide +kernel
theorem dX1_endPart_20 : decode cX1_endPart 20 = .ok (.getfield 18, 3) := by decide +kernel
theorem dX1_endPart_23 : decode cX1_endPart 23 = .ok (.aload_n 0, 1) := by decide +kernel
theorem dX1_endPart_24 : decode cX1_endPart 24 = .ok (.getfield 22, 3) := by decide +kernel
theorem dX1_endPart_27 : decode cX1_endPart 27 = .ok (.iastore, 1) := by decide +kernel
theorem dX1_endPart_28 : decode cX1_endPart 28 = .ok (.goto 105, 3) := by decide +kernel
theorem dX1_endPart_31 : decode cX1_endPart 31 = .ok (.aload_n 0, 1) := by decide +kernel
theorem dX1_endPart_32 : decode cX1_endPart 32 = .ok (.getfield 22, 3) := by decide +kernel
theorem dX1_endPart_35 : decode cX1_endPart 35 = .ok (.iconst (-1), 1) := by decide +kernel
theorem dX1_endPart_36 : decode cX1_endPart 36 = .ok (.if_icmp .eq 97, 3) := by decide +kernel
theorem dX1_endPart_39 : decode cX1_endPart 39 = .ok (.aload_n 0, 1) := by decide +kernel
theorem dX1_endPart_40 : decode cX1_endPart 40 = .ok (.aload_n 1, 1) := by decide +kernel
theorem dX1_endPart_41 : decode cX1_endPart 41 = .ok (.iload_n 2, 1) := by decide +kernel
theorem dX1_endPart_42 : decode cX1_endPart 42 = .ok (.invokestatic 94, 3) := by decide +kernel
theorem dX1_endPart_45 : decode cX1_endPart 45 = .ok (.aload_n 0, 1) := by decide +kernel
theorem dX1_endPart_46 : decode cX1_endPart 46 = .ok (.getfield 22, 3) := by decide +kernel
theorem dX1_endPart_49 : decode cX1_endPart 49 = .ok (.invokestatic 87, 3) := by decide +kernel
theorem dX1_endPart_52 : decode cX1_endPart 52 = .ok (.invokevirtual 113, 3) := by decide +kernel
theorem dX1_endPart_55 : decode cX1_endPart 55 = .ok (.iload_n 2, 1) := by decide +kernel
theorem dX1_endPart_56 : decode cX1_endPart 56 = .ok (.invokestatic 87, 3) := by decide +kernel
theorem dX1_endPart_59 : decode cX1_endPart 59 = .ok (.iload_n 2, 1) := by decide +kernel
theorem dX1_endPart_60 : decode cX1_endPart 60 = .ok (.invokestatic 101, 3) := by decide +kernel
theorem dX1_endPart_63 : decode cX1_endPart 63 = .ok (.ifCond .eq 13, 3) := by decide +kernel
theorem dX1_endPart_66 : decode cX1_endPart 66 = .ok (.aload_n 0, 1) := by decide +kernel
theorem dX1_endPart_67 : decode cX1_endPart 67 = .ok (.getfield 22, 3) := by decide +kernel
theorem dX1_endPart_70 : decode cX1_endPart 70 = .ok (.invokestatic 87, 3) := by decide +kernel
theorem dX1_endPart_73 : decode cX1_endPart 73 = .ok (.goto 4, 3) := by decide +kernel
theorem dX1_endPart_76 : decode cX1_endPart 76 = .ok (.iconst 0, 1) := by decide +kernel
theorem dX1_endPart_77 : decode cX1_endPart 77 = .ok (.ior, 1) := by decide +kernel
theorem dX1_endPart_78 : decode cX1_endPart 78 = .ok (.istore_n 3, 1) := by decide +kernel
theorem dX1_endPart_79 : decode cX1_endPart 79 = .ok (.aload_n 0, 1) := by decide +kernel
theorem dX1_endPart_80 : decode cX1_endPart 80 = .ok (.getfield 22, 3) := by decide +kernel
theorem dX1_endPart_83 : decode cX1_endPart 83 = .ok (.invokestatic 94, 3) := by decide +kernel
theorem dX1_endPart_86 : decode cX1_endPart 86 = .ok (.aload_n 0, 1) := by decide +kernel
theorem dX1_endPart_87 : decode cX1_endPart 87 = .ok (.getfield 22, 3) := by decide +kernel
theorem dX1_endPart_90 : decode cX1_endPart 90 = .ok (.invokestatic 101, 3) := by decide +kernel
theorem dX1_endPart_93 : decode cX1_endPart 93 = .ok (.ifCond .eq 10, 3) := by decide +kernel
theorem dX1_endPart_96 : decode cX1_endPart 96 = .ok (.iload_n 2, 1) := by decide +kernel
theorem dX1_endPart_97 : decode cX1_endPart 97 = .ok (.invokestatic 94, 3) := by decide +kernel
theorem dX1_endPart_100 : decode cX1_endPart 100 = .ok (.goto 4, 3) := by decide +kernel
theorem dX1_endPart_103 : decode cX1_endPart 103 = .ok (.iconst 0, 1) := by decide +kernel
theorem dX1_endPart_104 : decode cX1_endPart 104 = .ok (.ior, 1) := by decide +kernel
theorem dX1_endPart_105 : decode cX1_endPart 105 = .ok (.istore 4, 2) := by decide +kernel
theorem dX1_endPart_107 : decode cX1_endPart 107 = .ok (.aload_n 0, 1) := by decide +kernel
theorem dX1_endPart_108 : decode cX1_endPart 108 = .ok (.getfield 9, 3) := by decide +kernel
theorem dX1_endPart_111 : decode cX1_endPart 111 = .ok (.aload_n 0, 1) := by decide +kernel
theorem dX1_endPart_112 : decode cX1_endPart 112 = .ok (.getfield 18, 3) := by decide +kernel
theorem dX1_endPart_115 : decode cX1_endPart 115 = .ok (.iload_n 3, 1) := by decide +kernel
theorem dX1_endPart_116 : decode cX1_endPart 116 = .ok (.iload 4, 2) := by decide +kernel
theorem dX1_endPart_118 : decode cX1_endPart 118 = .ok (.bipush 10, 2) := by decide +kernel
theorem dX1_endPart_120 : decode cX1_endPart 120 = .ok (.ishl, 1) := by decide +kernel
theorem dX1_endPart_121 : decode cX1_endPart 121 = .ok (.ior, 1) := by decide +kernel
theorem dX1_endPart_122 : decode cX1_endPart 122 = .ok (.iload_n 2, 1) := by decide +kernel
theorem dX1_endPart_123 : decode cX1_endPart 123 = .ok (.aload_n 0, 1) := by decide +kernel
theorem dX1_endPart_124 : decode cX1_endPart 124 = .ok (.getfield 22, 3) := by decide +kernel
theorem dX1_endPart_127 : decode cX1_endPart 127 = .ok (.iand, 1) := by decide +kernel
theorem dX1_endPart_128 : decode cX1_endPart 128 = .ok (.ldc 117, 2) := by decide +kernel
theorem dX1_endPart_130 : decode cX1_endPart 130 = .ok (.iand, 1) := by decide +kernel
theorem dX1_endPart_131 : decode cX1_endPart 131 = .ok (.ior, 1) := by decide +kernel
theorem dX1_endPart_132 : decode cX1_endPart 132 = .ok (.iastore, 1) := by decide +kernel
theorem dX1_endPart_133 : decode cX1_endPart 133 = .ok (.aload_n 0, 1) := by decide +kernel
theorem dX1_endPart_134 : decode cX1_endPart 134 = .ok (.iconst (-1), 1) := by decide +kernel
theorem dX1_endPart_135 : decode cX1_endPart 135 = .ok (.putfield 22, 3) := by decide +kernel
theorem dX1_endPart_138 : decode cX1_endPart 138 = .ok (.return_, 1) := by decide +kernel
theorem dX1_link_0 : decode cX1_link 0 = .ok (.iconst 0, 1) := by decide +kernel
theorem dX1_link_1 : decode cX1_link 1 = .ok (.istore 4, 2) := by decide +kernel
theorem dX1_link_3 : decode cX1_link 3 = .ok (.iload 4, 2) := by decide +kernel
theorem dX1_link_5 : decode cX1_link 5 = .ok (.bipush 10, 2) := by decide +kernel
theorem dX1_link_7 : decode cX1_link 7 = .ok (.if_icmp .ge 38, 3) := by decide +kernel
theorem dX1_link_10 : decode cX1_link 10 = .ok (.aload_n 1, 1) := by decide +kernel
theorem dX1_link_11 : decode cX1_link 11 = .ok (.getfield 128, 3) := by decide +kernel
theorem dX1_link_14 : decode cX1_link 14 = .ok (.aload_n 0, 1) := by decide +kernel
theorem dX1_link_15 : decode cX1_link 15 = .ok (.getfield 28, 3) := by decide +kernel
theorem dX1_link_18 : decode cX1_link 18 = .ok (.aaload, 1) := by decide +kernel
theorem dX1_link_19 : decode cX1_link 19 = .ok (.iload 4, 2) := by decide +kernel
theorem dX1_link_21 : decode cX1_link 21 = .ok (.dup2, 1) := by decide +kernel
theorem dX1_link_22 : decode cX1_link 22 = .ok (.iaload, 1) := by decide +kernel
theorem dX1_link_23 : decode cX1_link 23 = .ok (.iload_n 2, 1) := by decide +kernel
theorem dX1_link_24 : decode cX1_link 24 = .ok (.iload 4, 2) := by decide +kernel
theorem dX1_link_26 : decode cX1_link 26 = .ok (.ishr, 1) := by decide +kernel
theorem dX1_link_27 : decode cX1_link 27 = .ok (.iconst 1, 1) := by decide +kernel
theorem dX1_link_28 : decode cX1_link 28 = .ok (.iand, 1) := by decide +kernel
theorem dX1_link_29 : decode cX1_link 29 = .ok (.ifCond .eq 7, 3) := by decide +kernel
theorem dX1_link_32 : decode cX1_link 32 = .ok (.iload_n 3, 1) := by decide +kernel
theorem dX1_link_33 : decode cX1_link 33 = .ok (.goto 4, 3) := by decide +kernel
theorem dX1_link_36 : decode cX1_link 36 = .ok (.iconst 0, 1) := by decide +kernel
theorem dX1_link_37 : decode cX1_link 37 = .ok (.ior, 1) := by decide +kernel
theorem dX1_link_38 : decode cX1_link 38 = .ok (.iastore, 1) := by decide +kernel
theorem dX1_link_39 : decode cX1_link 39 = .ok (.iinc 4 1, 3) := by decide +kernel
theorem dX1_link_42 : decode cX1_link 42 = .ok (.goto (-39), 3) := by decide +kernel
theorem dX1_link_45 : decode cX1_link 45 = .ok (.return_, 1) := by decide +kernel
theorem dX1_firstOf_0 : decode cX1_firstOf 0 = .ok (.iload_n 0, 1) := by decide +kernel
theorem dX1_firstOf_1 : decode cX1_firstOf 1 = .ok (.sipush 1023, 3) := by decide +kernel
theorem dX1_firstOf_4 : decode cX1_firstOf 4 = .ok (.iand, 1) := by decide +kernel
theorem dX1_firstOf_5 : decode cX1_firstOf 5 = .ok (.ireturn, 1) := by decide +kernel
theorem dX1_lastOf_0 : decode cX1_lastOf 0 = .ok (.iload_n 0, 1) := by decide +kernel
theorem dX1_lastOf_1 : decode cX1_lastOf 1 = .ok (.bipush 10, 2) := by decide +kernel
theorem dX1_lastOf_3 : decode cX1_lastOf 3 = .ok (.ishr, 1) := by decide +kernel
theorem dX1_lastOf_4 : decode cX1_lastOf 4 = .ok (.sipush 1023, 3) := by decide +kernel
theorem dX1_lastOf_7 : decode cX1_lastOf 7 = .ok (.iand, 1) := by decide +kernel
theorem dX1_lastOf_8 : decode cX1_lastOf 8 = .ok (.ireturn, 1) := by decide +kernel
theorem dX1_mayBeEmpty_0 : decode cX1_mayBeEmpty 0 = .ok (.iload_n 0, 1) := by decide +kernel
theorem dX1_mayBeEmpty_1 : decode cX1_mayBeEmpty 1 = .ok (.ldc 117, 2) := by decide +kernel
theorem dX1_mayBeEmpty_3 : decode cX1_mayBeEmpty 3 = .ok (.iand, 1) := by decide +kernel
theorem dX1_mayBeEmpty_4 : decode cX1_mayBeEmpty 4 = .ok (.ifCond .eq 7, 3) := by decide +kernel
theorem dX1_mayBeEmpty_7 : decode cX1_mayBeEmpty 7 = .ok (.iconst 1, 1) := by decide +kernel
theorem dX1_mayBeEmpty_8 : decode cX1_mayBeEmpty 8 = .ok (.goto 4, 3) := by decide +kernel
theorem dX1_mayBeEmpty_11 : decode cX1_mayBeEmpty 11 = .ok (.iconst 0, 1) := by decide +kernel
theorem dX1_mayBeEmpty_12 : decode cX1_mayBeEmpty 12 = .ok (.ireturn, 1) := by decide +kernel
theorem dX2_init_0 : decode cX2_init 0 = .ok (.aload_n 0, 1) := by decide +kernel
theorem dX2_init_1 : decode cX2_init 1 = .ok (.invokespecial 3, 3) := by decide +kernel
theorem dX2_init_4 : decode cX2_init 4 = .ok (.aload_n 0, 1) := by decide +kernel
theorem dX2_init_5 : decode cX2_init 5 = .ok (.iconst 0, 1) := by decide +kernel
theorem dX2_init_6 : decode cX2_init 6 = .ok (.putfield 9, 3) := by decide +kernel
theorem dX2_init_9 : decode cX2_init 9 = .ok (.aload_n 0, 1) := by decide +kernel
theorem dX2_init_10 : decode cX2_init 10 = .ok (.iconst 1, 1) := by decide +kernel
theorem dX2_init_11 : decode cX2_init 11 = .ok (.putfield 15, 3) := by decide +kernel
theorem dX2_init_14 : decode cX2_init 14 = .ok (.aload_n 0, 1) := by decide +kernel
theorem dX2_init_15 : decode cX2_init 15 = .ok (.bipush 24, 2) := by decide +kernel
theorem dX2_init_17 : decode cX2_init 17 = .ok (.newarray .int, 2) := by decide +kernel
theorem dX2_init_19 : decode cX2_init 19 = .ok (.putfield 18, 3) := by decide +kernel
theorem dX2_init_22 : decode cX2_init 22 = .ok (.aload_n 0, 1) := by decide +kernel
theorem dX2_init_23 : decode cX2_init 23 = .ok (.bipush 24, 2) := by decide +kernel
theorem dX2_init_25 : decode cX2_init 25 = .ok (.newarray .int, 2) := by decide +kernel
theorem dX2_init_27 : decode cX2_init 27 = .ok (.putfield 22, 3) := by decide +kernel
theorem dX2_init_30 : decode cX2_init 30 = .ok (.aload_n 0, 1) := by decide +kernel
theorem dX2_init_31 : decode cX2_init 31 = .ok (.bipush 24, 2) := by decide +kernel
theorem dX2_init_33 : decode cX2_init 33 = .ok (.newarray .int, 2) := by decide +kernel
theorem dX2_init_35 : decode cX2_init 35 = .ok (.putfield 25, 3) := by decide +kernel
theorem dX2_init_38 : decode cX2_init 38 = .ok (.aload_n 0, 1) := by decide +kernel
theorem dX2_init_39 : decode cX2_init 39 = .ok (.bipush 24, 2) := by decide +kernel
theorem dX2_init_41 : decode cX2_init 41 = .ok (.newarray .int, 2) := by decide +kernel
theorem dX2_init_43 : decode cX2_init 43 = .ok (.putfield 28, 3) := by decide +kernel
theorem dX2_init_46 : decode cX2_init 46 = .ok (.aload_n 0, 1) := by decide +kernel
theorem dX2_init_47 : decode cX2_init 47 = .ok (.bipush 24, 2) := by decide +kernel
theorem dX2_init_49 : decode cX2_init 49 = .ok (.newarray .int, 2) := by decide +kernel
theorem dX2_init_51 : decode cX2_init 51 = .ok (.putfield 31, 3) := by decide +kernel
theorem dX2_init_54 : decode cX2_init 54 = .ok (.aload_n 0, 1) := by decide +kernel
theorem dX2_init_55 : decode cX2_init 55 = .ok (.bipush 24, 2) := by decide +kernel
theorem dX2_init_57 : decode cX2_init 57 = .ok (.newarray .int, 2) := by decide +kernel
theorem dX2_init_59 : decode cX2_init 59 = .ok (.putfield 34, 3) := by decide +kernel
theorem dX2_init_62 : decode cX2_init 62 = .ok (.aload_n 0, 1) := by decide +kernel
theorem dX2_init_63 : decode cX2_init 63 = .ok (.bipush 24, 2) := by decide +kernel
theorem dX2_init_65 : decode cX2_init 65 = .ok (.newarray .int, 2) := by decide +kernel
theorem dX2_init_67 : decode cX2_init 67 = .ok (.putfield 37, 3) := by decide +kernel
theorem dX2_init_70 : decode cX2_init 70 = .ok (.aload_n 0, 1) := by decide +kernel
theorem dX2_init_71 : decode cX2_init 71 = .ok (.bipush 24, 2) := by decide +kernel
theorem dX2_init_73 : decode cX2_init 73 = .ok (.newarray .int, 2) := by decide +kernel
theorem dX2_init_75 : decode cX2_init 75 = .ok (.putfield 40, 3) := by decide +kernel
theorem dX2_init_78 : decode cX2_init 78 = .ok (.aload_n 0, 1) := by decide +kernel
theorem dX2_init_79 : decode cX2_init 79 = .ok (.iconst 1, 1) := by decide +kernel
theorem dX2_init_80 : decode cX2_init 80 = .ok (.putfield 43, 3) := by decide +kernel
theorem dX2_init_83 : decode cX2_init 83 = .ok (.aload_n 0, 1) := by decide +kernel
theorem dX2_init_84 : decode cX2_init 84 = .ok (.iconst 0, 1) := by decide +kernel
theorem dX2_init_85 : decode cX2_init 85 = .ok (.putfield 46, 3) := by decide +kernel
theorem dX2_init_88 : decode cX2_init 88 = .ok (.aload_n 0, 1) := by decide +kernel
theorem dX2_init_89 : decode cX2_init 89 = .ok (.iconst (-1), 1) := by decide +kernel
theorem dX2_init_90 : decode cX2_init 90 = .ok (.putfield 49, 3) := by decide +kernel
theorem dX2_init_93 : decode cX2_init 93 = .ok (.aload_n 0, 1) := by decide +kernel
theorem dX2_init_94 : decode cX2_init 94 = .ok (.iconst 0, 1) := by decide +kernel
theorem dX2_init_95 : decode cX2_init 95 = .ok (.putfield 52, 3) := by decide +kernel
theorem dX2_init_98 : decode cX2_init 98 = .ok (.aload_n 0, 1) := by decide +kernel
theorem dX2_init_99 : decode cX2_init 99 = .ok (.iconst 0, 1) := by decide +kernel
theorem dX2_init_100 : decode cX2_init 100 = .ok (.putfield 55, 3) := by decide +kernel
theorem dX2_init_103 : decode cX2_init 103 = .ok (.aload_n 0, 1) := by decide +kernel
theorem dX2_init_104 : decode cX2_init 104 = .ok (.iconst (-1), 1) := by decide +kernel
theorem dX2_init_105 : decode cX2_init 105 = .ok (.putfield 58, 3) := by decide +kernel
theorem dX2_init_108 : decode cX2_init 108 = .ok (.return_, 1) := by decide +kernel
theorem dX2_make_0 : decode cX2_make 0 = .ok (.aload_n 0, 1) := by decide +kernel
theorem dX2_make_1 : decode cX2_make 1 = .ok (.iconst 0, 1) := by decide +kernel
theorem dX2_make_2 : decode cX2_make 2 = .ok (.putfield 9, 3) := by decide +kernel
theorem dX2_make_5 : decode cX2_make 5 = .ok (.aload_n 0, 1) := by decide +kernel
theorem dX2_make_6 : decode cX2_make 6 = .ok (.iconst 1, 1) := by decide +kernel
theorem dX2_make_7 : decode cX2_make 7 = .ok (.putfield 15, 3) := by decide +kernel
theorem dX2_make_10 : decode cX2_make 10 = .ok (.aload_n 0, 1) := by decide +kernel
theorem dX2_make_11 : decode cX2_make 11 = .ok (.iconst 1, 1) := by decide +kernel
theorem dX2_make_12 : decode cX2_make 12 = .ok (.putfield 43, 3) := by decide +kernel
theorem dX2_make_15 : decode cX2_make 15 = .ok (.aload_n 0, 1) := by decide +kernel
theorem dX2_make_16 : decode cX2_make 16 = .ok (.iconst 0, 1) := by decide +kernel
theorem dX2_make_17 : decode cX2_make 17 = .ok (.putfield 46, 3) := by decide +kernel
theorem dX2_make_20 : decode cX2_make 20 = .ok (.iconst 0, 1) := by decide +kernel
theorem dX2_make_21 : decode cX2_make 21 = .ok (.istore_n 3, 1) := by decide +kernel
theorem dX2_make_22 : decode cX2_make 22 = .ok (.iconst 0, 1) := by decide +kernel
theorem dX2_make_23 : decode cX2_make 23 = .ok (.istore 4, 2) := by decide +kernel
theorem dX2_make_25 : decode cX2_make 25 = .ok (.iload 4, 2) := by decide +kernel
theorem dX2_make_27 : decode cX2_make 27 = .ok (.bipush 24, 2) := by decide +kernel
theorem dX2_make_29 : decode cX2_make 29 = .ok (.if_icmp .ge 156, 3) := by decide +kernel
theorem dX2_make_32 : decode cX2_make 32 = .ok (.iload_n 3, 1) := by decide +kernel
theorem dX2_make_33 : decode cX2_make 33 = .ok (.aload_n 2, 1) := by decide +kernel
theorem dX2_make_34 : decode cX2_make 34 = .ok (.getfield 61, 3) := by decide +kernel
theorem dX2_make_37 : decode cX2_make 37 = .ok (.if_icmp .ge 148, 3) := by decide +kernel
theorem dX2_make_40 : decode cX2_make 40 = .ok (.aload_n 0, 1) := by decide +kernel
theorem dX2_make_41 : decode cX2_make 41 = .ok (.getfield 46, 3) := by decide +kernel
theorem dX2_make_44 : decode cX2_make 44 = .ok (.iconst 3, 1) := by decide +kernel
theorem dX2_make_45 : decode cX2_make 45 = .ok (.iand, 1) := by decide +kernel
theorem dX2_make_46 : decode cX2_make 46 = .ok (.istore 5, 2) := by decide +kernel
theorem dX2_make_48 : decode cX2_make 48 = .ok (.aload_n 0, 1) := by decide +kernel
theorem dX2_make_49 : decode cX2_make 49 = .ok (.aload_n 1, 1) := by decide +kernel
theorem dX2_make_50 : decode cX2_make 50 = .ok (.aload_n 2, 1) := by decide +kernel
theorem dX2_make_51 : decode cX2_make 51 = .ok (.iload 5, 2) := by decide +kernel
theorem dX2_make_53 : decode cX2_make 53 = .ok (.iload_n 3, 1) := by decide +kernel
theorem dX2_make_54 : decode cX2_make 54 = .ok (.invokevirtual 66, 3) := by decide +kernel
theorem dX2_make_57 : decode cX2_make 57 = .ok (.aload_n 0, 1) := by decide +kernel
theorem dX2_make_58 : decode cX2_make 58 = .ok (.getfield 22, 3) := by decide +kernel
theorem dX2_make_61 : decode cX2_make 61 = .ok (.iload 4, 2) := by decide +kernel
theorem dX2_make_63 : decode cX2_make 63 = .ok (.iload_n 3, 1) := by decide +kernel
theorem dX2_make_64 : decode cX2_make 64 = .ok (.iastore, 1) := by decide +kernel
theorem dX2_make_65 : decode cX2_make 65 = .ok (.aload_n 0, 1) := by decide +kernel
theorem dX2_make_66 : decode cX2_make 66 = .ok (.getfield 18, 3) := by decide +kernel
theorem dX2_make_69 : decode cX2_make 69 = .ok (.iload 4, 2) := by decide +kernel
theorem dX2_make_71 : decode cX2_make 71 = .ok (.aload_n 0, 1) := by decide +kernel
theorem dX2_make_72 : decode cX2_make 72 = .ok (.getfield 49, 3) := by decide +kernel
theorem dX2_make_75 : decode cX2_make 75 = .ok (.iastore, 1) := by decide +kernel
theorem dX2_make_76 : decode cX2_make 76 = .ok (.aload_n 0, 1) := by decide +kernel
theorem dX2_make_77 : decode cX2_make 77 = .ok (.getfield 25, 3) := by decide +kernel
theorem dX2_make_80 : decode cX2_make 80 = .ok (.iload 4, 2) := by decide +kernel
theorem dX2_make_82 : decode cX2_make 82 = .ok (.aload_n 0, 1) := by decide +kernel
theorem dX2_make_83 : decode cX2_make 83 = .ok (.getfield 49, 3) := by decide +kernel
theorem dX2_make_86 : decode cX2_make 86 = .ok (.iconst (-1), 1) := by decide +kernel
theorem dX2_make_87 : decode cX2_make 87 = .ok (.if_icmp .ne 9, 3) := by decide +kernel
theorem dX2_make_90 : decode cX2_make 90 = .ok (.iload_n 3, 1) := by decide +kernel
theorem dX2_make_91 : decode cX2_make 91 = .ok (.iconst 1, 1) := by decide +kernel
theorem dX2_make_92 : decode cX2_make 92 = .ok (.iadd, 1) := by decide +kernel
theorem dX2_make_93 : decode cX2_make 93 = .ok (.goto 7, 3) := by decide +kernel
theorem dX2_make_96 : decode cX2_make 96 = .ok (.aload_n 0, 1) := by decide +kernel
theorem dX2_make_97 : decode cX2_make 97 = .ok (.getfield 52, 3) := by decide +kernel
theorem dX2_make_100 : decode cX2_make 100 = .ok (.iastore, 1) := by decide +kernel
theorem dX2_make_101 : decode cX2_make 101 = .ok (.aload_n 0, 1) := by decide +kernel
theorem dX2_make_102 : decode cX2_make 102 = .ok (.getfield 28, 3) := by decide +kernel
theorem dX2_make_105 : decode cX2_make 105 = .ok (.iload 4, 2) := by decide +kernel
theorem dX2_make_107 : decode cX2_make 107 = .ok (.aload_n 0, 1) := by decide +kernel
theorem dX2_make_108 : decode cX2_make 108 = .ok (.getfield 55, 3) := by decide +kernel
theorem dX2_make_111 : decode cX2_make 111 = .ok (.iastore, 1) := by decide +kernel
theorem dX2_make_112 : decode cX2_make 112 = .ok (.aload_n 0, 1) := by decide +kernel
theorem dX2_make_113 : decode cX2_make 113 = .ok (.getfield 31, 3) := by decide +kernel
theorem dX2_make_116 : decode cX2_make 116 = .ok (.iload 4, 2) := by decide +kernel
theorem dX2_make_118 : decode cX2_make 118 = .ok (.aload_n 0, 1) := by decide +kernel
theorem dX2_make_119 : decode cX2_make 119 = .ok (.getfield 58, 3) := by decide +kernel
theorem dX2_make_122 : decode cX2_make 122 = .ok (.iastore, 1) := by decide +kernel
theorem dX2_make_123 : decode cX2_make 123 = .ok (.aload_n 0, 1) := by decide +kernel
theorem dX2_make_124 : decode cX2_make 124 = .ok (.getfield 34, 3) := by decide +kernel
theorem dX2_make_127 : decode cX2_make 127 = .ok (.iload 4, 2) := by decide +kernel
theorem dX2_make_129 : decode cX2_make 129 = .ok (.iload 5, 2) := by decide +kernel
theorem dX2_make_131 : decode cX2_make 131 = .ok (.iastore, 1) := by decide +kernel
theorem dX2_make_132 : decode cX2_make 132 = .ok (.aload_n 0, 1) := by decide +kernel
theorem dX2_make_133 : decode cX2_make 133 = .ok (.aload_n 1, 1) := by decide +kernel
theorem dX2_make_134 : decode cX2_make 134 = .ok (.aload_n 0, 1) := by decide +kernel
theorem dX2_make_135 : decode cX2_make 135 = .ok (.getfield 49, 3) := by decide +kernel
theorem dX2_make_138 : decode cX2_make 138 = .ok (.invokevirtual 70, 3) := by decide +kernel
theorem dX2_make_141 : decode cX2_make 141 = .ok (.aload_n 0, 1) := by decide +kernel
theorem dX2_make_142 : decode cX2_make 142 = .ok (.getfield 37, 3) := by decide +kernel
theorem dX2_make_145 : decode cX2_make 145 = .ok (.iload 4, 2) := by decide +kernel
theorem dX2_make_147 : decode cX2_make 147 = .ok (.aload_n 0, 1) := by decide +kernel
theorem dX2_make_148 : decode cX2_make 148 = .ok (.getfield 43, 3) := by decide +kernel
theorem dX2_make_151 : decode cX2_make 151 = .ok (.iastore, 1) := by decide +kernel
theorem dX2_make_152 : decode cX2_make 152 = .ok (.aload_n 0, 1) := by decide +kernel
theorem dX2_make_153 : decode cX2_make 153 = .ok (.getfield 40, 3) := by decide +kernel
theorem dX2_make_156 : decode cX2_make 156 = .ok (.iload 4, 2) := by decide +kernel
theorem dX2_make_158 : decode cX2_make 158 = .ok (.aload_n 0, 1) := by decide +kernel
theorem dX2_make_159 : decode cX2_make 159 = .ok (.getfield 46, 3) := by decide +kernel
theorem dX2_make_162 : decode cX2_make 162 = .ok (.iastore, 1) := by decide +kernel
theorem dX2_make_163 : decode cX2_make 163 = .ok (.aload_n 0, 1) := by decide +kernel
theorem dX2_make_164 : decode cX2_make 164 = .ok (.getfield 25, 3) := by decide +kernel
theorem dX2_make_167 : decode cX2_make 167 = .ok (.iload 4, 2) := by decide +kernel
theorem dX2_make_169 : decode cX2_make 169 = .ok (.iaload, 1) := by decide +kernel
theorem dX2_make_170 : decode cX2_make 170 = .ok (.istore_n 3, 1) := by decide +kernel
theorem dX2_make_171 : decode cX2_make 171 = .ok (.aload_n 0, 1) := by decide +kernel
theorem dX2_make_172 : decode cX2_make 172 = .ok (.iload 4, 2) := by decide +kernel
theorem dX2_make_174 : decode cX2_make 174 = .ok (.iconst 1, 1) := by decide +kernel
theorem dX2_make_175 : decode cX2_make 175 = .ok (.iadd, 1) := by decide +kernel
theorem dX2_make_176 : decode cX2_make 176 = .ok (.putfield 9, 3) := by decide +kernel
theorem dX2_make_179 : decode cX2_make 179 = .ok (.iinc 4 1, 3) := by decide +kernel
theorem dX2_make_182 : decode cX2_make 182 = .ok (.goto (-157), 3) := by decide +kernel
theorem dX2_make_185 : decode cX2_make 185 = .ok (.return_, 1) := by decide +kernel
theorem dX2_readFrom_0 : decode cX2_readFrom 0 = .ok (.aload_n 0, 1) := by decide +kernel
theorem dX2_readFrom_1 : decode cX2_readFrom 1 = .ok (.iconst (-1), 1) := by decide +kernel
theorem dX2_readFrom_2 : decode cX2_readFrom 2 = .ok (.putfield 49, 3) := by decide +kernel
theorem dX2_readFrom_5 : decode cX2_readFrom 5 = .ok (.aload_n 0, 1) := by decide +kernel
theorem dX2_readFrom_6 : decode cX2_readFrom 6 = .ok (.iload 4, 2) := by decide +kernel
theorem dX2_readFrom_8 : decode cX2_readFrom 8 = .ok (.putfield 52, 3) := by decide +kernel
theorem dX2_readFrom_11 : decode cX2_readFrom 11 = .ok (.aload_n 0, 1) := by decide +kernel
theorem dX2_readFrom_12 : decode cX2_readFrom 12 = .ok (.iload 4, 2) := by decide +kernel
theorem dX2_readFrom_14 : decode cX2_readFrom 14 = .ok (.putfield 55, 3) := by decide +kernel
theorem dX2_readFrom_17 : decode cX2_readFrom 17 = .ok (.aload_n 0, 1) := by decide +kernel
theorem dX2_readFrom_18 : decode cX2_readFrom 18 = .ok (.iconst (-1), 1) := by decide +kernel
theorem dX2_readFrom_19 : decode cX2_readFrom 19 = .ok (.putfield 58, 3) := by decide +kernel
theorem dX2_readFrom_22 : decode cX2_readFrom 22 = .ok (.aload_n 1, 1) := by decide +kernel
theorem dX2_readFrom_23 : decode cX2_readFrom 23 = .ok (.iload_n 3, 1) := by decide +kernel
theorem dX2_readFrom_24 : decode cX2_readFrom 24 = .ok (.invokevirtual 74, 3) := by decide +kernel
theorem dX2_readFrom_27 : decode cX2_readFrom 27 = .ok (.istore 5, 2) := by decide +kernel
theorem dX2_readFrom_29 : decode cX2_readFrom 29 = .ok (.iload 4, 2) := by decide +kernel
theorem dX2_readFrom_31 : decode cX2_readFrom 31 = .ok (.istore 6, 2) := by decide +kernel
theorem dX2_readFrom_33 : decode cX2_readFrom 33 = .ok (.iload 6, 2) := by decide +kernel
theorem dX2_readFrom_35 : decode cX2_readFrom 35 = .ok (.aload_n 2, 1) := by decide +kernel
theorem dX2_readFrom_36 : decode cX2_readFrom 36 = .ok (.getfield 61, 3) := by decide +kernel
theorem dX2_readFrom_39 : decode cX2_readFrom 39 = .ok (.if_icmp .ge 90, 3) := by decide +kernel
theorem dX2_readFrom_42 : decode cX2_readFrom 42 = .ok (.aload_n 0, 1) := by decide +kernel
theorem dX2_readFrom_43 : decode cX2_readFrom 43 = .ok (.getfield 58, 3) := by decide +kernel
theorem dX2_readFrom_46 : decode cX2_readFrom 46 = .ok (.iconst (-1), 1) := by decide +kernel
theorem dX2_readFrom_47 : decode cX2_readFrom 47 = .ok (.if_icmp .ne 82, 3) := by decide +kernel
theorem dX2_readFrom_50 : decode cX2_readFrom 50 = .ok (.iload 5, 2) := by decide +kernel
theorem dX2_readFrom_52 : decode cX2_readFrom 52 = .ok (.aload_n 1, 1) := by decide +kernel
theorem dX2_readFrom_53 : decode cX2_readFrom 53 = .ok (.iload_n 3, 1) := by decide +kernel
theorem dX2_readFrom_54 : decode cX2_readFrom 54 = .ok (.aload_n 2, 1) := by decide +kernel
theorem dX2_readFrom_55 : decode cX2_readFrom 55 = .ok (.iload 6, 2) := by decide +kernel
theorem dX2_readFrom_57 : decode cX2_readFrom 57 = .ok (.invokevirtual 80, 3) := by decide +kernel
theorem dX2_readFrom_60 : decode cX2_readFrom 60 = .ok (.invokevirtual 83, 3) := by decide +kernel
theorem dX2_readFrom_63 : decode cX2_readFrom 63 = .ok (.iand, 1) := by decide +kernel
theorem dX2_readFrom_64 : decode cX2_readFrom 64 = .ok (.istore 7, 2) := by decide +kernel
theorem dX2_readFrom_66 : decode cX2_readFrom 66 = .ok (.aload_n 0, 1) := by decide +kernel
theorem dX2_readFrom_67 : decode cX2_readFrom 67 = .ok (.iload 6, 2) := by decide +kernel
theorem dX2_readFrom_69 : decode cX2_readFrom 69 = .ok (.iconst 1, 1) := by decide +kernel
theorem dX2_readFrom_70 : decode cX2_readFrom 70 = .ok (.iadd, 1) := by decide +kernel
theorem dX2_readFrom_71 : decode cX2_readFrom 71 = .ok (.putfield 55, 3) := by decide +kernel
theorem dX2_readFrom_74 : decode cX2_readFrom 74 = .ok (.iload 7, 2) := by decide +kernel
theorem dX2_readFrom_76 : decode cX2_readFrom 76 = .ok (.ifCond .ne 9, 3) := by decide +kernel
theorem dX2_readFrom_79 : decode cX2_readFrom 79 = .ok (.aload_n 0, 1) := by decide +kernel
theorem dX2_readFrom_80 : decode cX2_readFrom 80 = .ok (.iload 6, 2) := by decide +kernel
theorem dX2_readFrom_82 : decode cX2_readFrom 82 = .ok (.putfield 58, 3) := by decide +kernel
theorem dX2_readFrom_85 : decode cX2_readFrom 85 = .ok (.aload_n 1, 1) := by decide +kernel
theorem dX2_readFrom_86 : decode cX2_readFrom 86 = .ok (.iload_n 3, 1) := by decide +kernel
theorem dX2_readFrom_87 : decode cX2_readFrom 87 = .ok (.iload 7, 2) := by decide +kernel
theorem dX2_readFrom_89 : decode cX2_readFrom 89 = .ok (.invokevirtual 87, 3) := by decide +kernel
theorem dX2_readFrom_92 : decode cX2_readFrom 92 = .ok (.istore 8, 2) := by decide +kernel
theorem dX2_readFrom_94 : decode cX2_readFrom 94 = .ok (.iload 8, 2) := by decide +kernel
theorem dX2_readFrom_96 : decode cX2_readFrom 96 = .ok (.iconst (-1), 1) := by decide +kernel
theorem dX2_readFrom_97 : decode cX2_readFrom 97 = .ok (.if_icmp .eq 17, 3) := by decide +kernel
theorem dX2_readFrom_100 : decode cX2_readFrom 100 = .ok (.aload_n 0, 1) := by decide +kernel
theorem dX2_readFrom_101 : decode cX2_readFrom 101 = .ok (.iload 8, 2) := by decide +kernel
theorem dX2_readFrom_103 : decode cX2_readFrom 103 = .ok (.putfield 49, 3) := by decide +kernel
theorem dX2_readFrom_106 : decode cX2_readFrom 106 = .ok (.aload_n 0, 1) := by decide +kernel
theorem dX2_readFrom_107 : decode cX2_readFrom 107 = .ok (.iload 6, 2) := by decide +kernel
theorem dX2_readFrom_109 : decode cX2_readFrom 109 = .ok (.iconst 1, 1) := by decide +kernel
theorem dX2_readFrom_110 : decode cX2_readFrom 110 = .ok (.iadd, 1) := by decide +kernel
theorem dX2_readFrom_111 : decode cX2_readFrom 111 = .ok (.putfield 52, 3) := by decide +kernel
theorem dX2_readFrom_114 : decode cX2_readFrom 114 = .ok (.aload_n 1, 1) := by decide +kernel
theorem dX2_readFrom_115 : decode cX2_readFrom 115 = .ok (.iload_n 3, 1) := by decide +kernel
theorem dX2_readFrom_116 : decode cX2_readFrom 116 = .ok (.iload 7, 2) := by decide +kernel
theorem dX2_readFrom_118 : decode cX2_readFrom 118 = .ok (.invokevirtual 90, 3) := by decide +kernel
theorem dX2_readFrom_121 : decode cX2_readFrom 121 = .ok (.istore 5, 2) := by decide +kernel
theorem dX2_readFrom_123 : decode cX2_readFrom 123 = .ok (.iinc 6 1, 3) := by decide +kernel
theorem dX2_readFrom_126 : decode cX2_readFrom 126 = .ok (.goto (-93), 3) := by decide +kernel
theorem dX2_readFrom_129 : decode cX2_readFrom 129 = .ok (.return_, 1) := by decide +kernel
theorem dX2_doAct_0 : decode cX2_doAct 0 = .ok (.iload_n 2, 1) := by decide +kernel
theorem dX2_doAct_1 : decode cX2_doAct 1 = .ok (.ifCond .lt 11, 3) := by decide +kernel
theorem dX2_doAct_4 : decode cX2_doAct 4 = .ok (.iload_n 2, 1) := by decide +kernel
theorem dX2_doAct_5 : decode cX2_doAct 5 = .ok (.aload_n 1, 1) := by decide +kernel
theorem dX2_doAct_6 : decode cX2_doAct 6 = .ok (.getfield 93, 3) := by decide +kernel
theorem dX2_doAct_9 : decode cX2_doAct 9 = .ok (.if_icmp .lt 4, 3) := by decide +kernel
theorem dX2_doAct_12 : decode cX2_doAct 12 = .ok (.return_, 1) := by decide +kernel
theorem dX2_doAct_13 : decode cX2_doAct 13 = .ok (.aload_n 1, 1) := by decide +kernel
theorem dX2_doAct_14 : decode cX2_doAct 14 = .ok (.getfield 96, 3) := by decide +kernel
theorem dX2_doAct_17 : decode cX2_doAct 17 = .ok (.iload_n 2, 1) := by decide +kernel
theorem dX2_doAct_18 : decode cX2_doAct 18 = .ok (.iaload, 1) := by decide +kernel
theorem dX2_doAct_19 : decode cX2_doAct 19 = .ok (.iconst 3, 1) := by decide +kernel
theorem dX2_doAct_20 : decode cX2_doAct 20 = .ok (.iand, 1) := by decide +kernel
theorem dX2_doAct_21 : decode cX2_doAct 21 = .ok (.istore_n 3, 1) := by decide +kernel
theorem dX2_doAct_22 : decode cX2_doAct 22 = .ok (.aload_n 1, 1) := by decide +kernel
theorem dX2_doAct_23 : decode cX2_doAct 23 = .ok (.getfield 99, 3) := by decide +kernel
theorem dX2_doAct_26 : decode cX2_doAct 26 = .ok (.iload_n 2, 1) := by decide +kernel
theorem dX2_doAct_27 : decode cX2_doAct 27 = .ok (.iaload, 1) := by decide +kernel
theorem dX2_doAct_28 : decode cX2_doAct 28 = .ok (.tableswitch 108 1 3 #[28, 59, 92], 28) := by decide +kernel
theorem dX2_doAct_56 : decode cX2_doAct 56 = .ok (.aload_n 0, 1) := by decide +kernel
theorem dX2_doAct_57 : decode cX2_doAct 57 = .ok (.getfield 43, 3) := by decide +kernel
theorem dX2_doAct_60 : decode cX2_doAct 60 = .ok (.iconst 1, 1) := by decide +kernel
theorem dX2_doAct_61 : decode cX2_doAct 61 = .ok (.if_icmp .le 75, 3) := by decide +kernel
theorem dX2_doAct_64 : decode cX2_doAct 64 = .ok (.aload_n 0, 1) := by decide +kernel
theorem dX2_doAct_65 : decode cX2_doAct 65 = .ok (.dup, 1) := by decide +kernel
theorem dX2_doAct_66 : decode cX2_doAct 66 = .ok (.getfield 43, 3) := by decide +kernel
theorem dX2_doAct_69 : decode cX2_doAct 69 = .ok (.iconst 1, 1) := by decide +kernel
theorem dX2_doAct_70 : decode cX2_doAct 70 = .ok (.isub, 1) := by decide +kernel
theorem dX2_doAct_71 : decode cX2_doAct 71 = .ok (.putfield 43, 3) := by decide +kernel
theorem dX2_doAct_74 : decode cX2_doAct 74 = .ok (.aload_n 0, 1) := by decide +kernel
theorem dX2_doAct_75 : decode cX2_doAct 75 = .ok (.dup, 1) := by decide +kernel
theorem dX2_doAct_76 : decode cX2_doAct 76 = .ok (.getfield 46, 3) := by decide +kernel
theorem dX2_doAct_79 : decode cX2_doAct 79 = .ok (.iconst 2, 1) := by decide +kernel
theorem dX2_doAct_80 : decode cX2_doAct 80 = .ok (.ishr, 1) := by decide +kernel
theorem dX2_doAct_81 : decode cX2_doAct 81 = .ok (.putfield 46, 3) := by decide +kernel
theorem dX2_doAct_84 : decode cX2_doAct 84 = .ok (.goto 52, 3) := by decide +kernel
theorem dX2_doAct_87 : decode cX2_doAct 87 = .ok (.aload_n 0, 1) := by decide +kernel
theorem dX2_doAct_88 : decode cX2_doAct 88 = .ok (.aload_n 0, 1) := by decide +kernel
theorem dX2_doAct_89 : decode cX2_doAct 89 = .ok (.getfield 43, 3) := by decide +kernel
theorem dX2_doAct_92 : decode cX2_doAct 92 = .ok (.iconst 1, 1) := by decide +kernel
theorem dX2_doAct_93 : decode cX2_doAct 93 = .ok (.iadd, 1) := by decide +kernel
theorem dX2_doAct_94 : decode cX2_doAct 94 = .ok (.iconst 5, 1) := by decide +kernel
theorem dX2_doAct_95 : decode cX2_doAct 95 = .ok (.invokestatic 102, 3) := by decide +kernel
theorem dX2_doAct_98 : decode cX2_doAct 98 = .ok (.putfield 43, 3) := by decide +kernel
theorem dX2_doAct_101 : decode cX2_doAct 101 = .ok (.aload_n 0, 1) := by decide +kernel
theorem dX2_doAct_102 : decode cX2_doAct 102 = .ok (.aload_n 0, 1) := by decide +kernel
theorem dX2_doAct_103 : decode cX2_doAct 103 = .ok (.getfield 46, 3) := by decide +kernel
theorem dX2_doAct_106 : decode cX2_doAct 106 = .ok (.iconst 2, 1) := by decide +kernel
theorem dX2_doAct_107 : decode cX2_doAct 107 = .ok (.ishl, 1) := by decide +kernel
theorem dX2_doAct_108 : decode cX2_doAct 108 = .ok (.iload_n 3, 1) := by decide +kernel
theorem dX2_doAct_109 : decode cX2_doAct 109 = .ok (.ior, 1) := by decide +kernel
theorem dX2_doAct_110 : decode cX2_doAct 110 = .ok (.sipush 1023, 3) := by decide +kernel
theorem dX2_doAct_113 : decode cX2_doAct 113 = .ok (.iand, 1) := by decide +kernel
theorem dX2_doAct_114 : decode cX2_doAct 114 = .ok (.putfield 46, 3) := by decide +kernel
theorem dX2_doAct_117 : decode cX2_doAct 117 = .ok (.goto 19, 3) := by decide +kernel
theorem dX2_doAct_120 : decode cX2_doAct 120 = .ok (.aload_n 0, 1) := by decide +kernel
theorem dX2_doAct_121 : decode cX2_doAct 121 = .ok (.aload_n 0, 1) := by decide +kernel
theorem dX2_doAct_122 : decode cX2_doAct 122 = .ok (.getfield 46, 3) := by decide +kernel
theorem dX2_doAct_125 : decode cX2_doAct 125 = .ok (.bipush (-4), 2) := by decide +kernel
theorem dX2_doAct_127 : decode cX2_doAct 127 = .ok (.iand, 1) := by decide +kernel
theorem dX2_doAct_128 : decode cX2_doAct 128 = .ok (.iload_n 3, 1) := by decide +kernel
theorem dX2_doAct_129 : decode cX2_doAct 129 = .ok (.ior, 1) := by decide +kernel
theorem dX2_doAct_130 : decode cX2_doAct 130 = .ok (.putfield 46, 3) := by decide +kernel
theorem dX2_doAct_133 : decode cX2_doAct 133 = .ok (.goto 3, 3) := by decide +kernel
theorem dX2_doAct_136 : decode cX2_doAct 136 = .ok (.aload_n 0, 1) := by decide +kernel
theorem dX2_doAct_137 : decode cX2_doAct 137 = .ok (.aload_n 0, 1) := by decide +kernel
theorem dX2_doAct_138 : decode cX2_doAct 138 = .ok (.getfield 15, 3) := by decide +kernel
theorem dX2_doAct_141 : decode cX2_doAct 141 = .ok (.aload_n 0, 1) := by decide +kernel
theorem dX2_doAct_142 : decode cX2_doAct 142 = .ok (.getfield 43, 3) := by decide +kernel
theorem dX2_doAct_145 : decode cX2_doAct 145 = .ok (.invokestatic 107, 3) := by decide +kernel
theorem dX2_doAct_148 : decode cX2_doAct 148 = .ok (.putfield 15, 3) := by decide +kernel
theorem dX2_doAct_151 : decode cX2_doAct 151 = .ok (.return_, 1) := by decide +kernel
theorem dX2_reach_0 : decode cX2_reach 0 = .ok (.iload_n 1, 1) := by decide +kernel
theorem dX2_reach_1 : decode cX2_reach 1 = .ok (.ifCond .lt 11, 3) := by decide +kernel
theorem dX2_reach_4 : decode cX2_reach 4 = .ok (.iload_n 1, 1) := by decide +kernel
theorem dX2_reach_5 : decode cX2_reach 5 = .ok (.aload_n 0, 1) := by decide +kernel
theorem dX2_reach_6 : decode cX2_reach 6 = .ok (.getfield 9, 3) := by decide +kernel
theorem dX2_reach_9 : decode cX2_reach 9 = .ok (.if_icmp .lt 5, 3) := by decide +kernel
theorem dX2_reach_12 : decode cX2_reach 12 = .ok (.iconst 0, 1) := by decide +kernel
theorem dX2_reach_13 : decode cX2_reach 13 = .ok (.ireturn, 1) := by decide +kernel
theorem dX2_reach_14 : decode cX2_reach 14 = .ok (.aload_n 0, 1) := by decide +kernel
theorem dX2_reach_15 : decode cX2_reach 15 = .ok (.getfield 31, 3) := by decide +kernel
theorem dX2_reach_18 : decode cX2_reach 18 = .ok (.iload_n 1, 1) := by decide +kernel
theorem dX2_reach_19 : decode cX2_reach 19 = .ok (.iaload, 1) := by decide +kernel
theorem dX2_reach_20 : decode cX2_reach 20 = .ok (.iconst (-1), 1) := by decide +kernel
theorem dX2_reach_21 : decode cX2_reach 21 = .ok (.if_icmp .ne 14, 3) := by decide +kernel
theorem dX2_reach_24 : decode cX2_reach 24 = .ok (.aload_n 0, 1) := by decide +kernel
theorem dX2_reach_25 : decode cX2_reach 25 = .ok (.getfield 28, 3) := by decide +kernel
theorem dX2_reach_28 : decode cX2_reach 28 = .ok (.iload_n 1, 1) := by decide +kernel
theorem dX2_reach_29 : decode cX2_reach 29 = .ok (.iaload, 1) := by decide +kernel
theorem dX2_reach_30 : decode cX2_reach 30 = .ok (.iconst 1, 1) := by decide +kernel
theorem dX2_reach_31 : decode cX2_reach 31 = .ok (.iadd, 1) := by decide +kernel
theorem dX2_reach_32 : decode cX2_reach 32 = .ok (.goto 9, 3) := by decide +kernel
theorem dX2_reach_35 : decode cX2_reach 35 = .ok (.aload_n 0, 1) := by decide +kernel
theorem dX2_reach_36 : decode cX2_reach 36 = .ok (.getfield 28, 3) := by decide +kernel
theorem dX2_reach_39 : decode cX2_reach 39 = .ok (.iload_n 1, 1) := by decide +kernel
theorem dX2_reach_40 : decode cX2_reach 40 = .ok (.iaload, 1) := by decide +kernel
theorem dX2_reach_41 : decode cX2_reach 41 = .ok (.ireturn, 1) := by decide +kernel
theorem dX2_aheadOf_0 : decode cX2_aheadOf 0 = .ok (.iconst 0, 1) := by decide +kernel
theorem dX2_aheadOf_1 : decode cX2_aheadOf 1 = .ok (.istore_n 2, 1) := by decide +kernel
theorem dX2_aheadOf_2 : decode cX2_aheadOf 2 = .ok (.iconst 0, 1) := by decide +kernel
theorem dX2_aheadOf_3 : decode cX2_aheadOf 3 = .ok (.istore_n 3, 1) := by decide +kernel
theorem dX2_aheadOf_4 : decode cX2_aheadOf 4 = .ok (.iload_n 3, 1) := by decide +kernel
theorem dX2_aheadOf_5 : decode cX2_aheadOf 5 = .ok (.aload_n 0, 1) := by decide +kernel
theorem dX2_aheadOf_6 : decode cX2_aheadOf 6 = .ok (.getfield 9, 3) := by decide +kernel
theorem dX2_aheadOf_9 : decode cX2_aheadOf 9 = .ok (.if_icmp .ge 31, 3) := by decide +kernel
theorem dX2_aheadOf_12 : decode cX2_aheadOf 12 = .ok (.iload_n 3, 1) := by decide +kernel
theorem dX2_aheadOf_13 : decode cX2_aheadOf 13 = .ok (.iload_n 2, 1) := by decide +kernel
theorem dX2_aheadOf_14 : decode cX2_aheadOf 14 = .ok (.if_icmp .ne 26, 3) := by decide +kernel
theorem dX2_aheadOf_17 : decode cX2_aheadOf 17 = .ok (.iload_n 2, 1) := by decide +kernel
theorem dX2_aheadOf_18 : decode cX2_aheadOf 18 = .ok (.aload_n 0, 1) := by decide +kernel
theorem dX2_aheadOf_19 : decode cX2_aheadOf 19 = .ok (.iload_n 3, 1) := by decide +kernel
theorem dX2_aheadOf_20 : decode cX2_aheadOf 20 = .ok (.invokevirtual 110, 3) := by decide +kernel
theorem dX2_aheadOf_23 : decode cX2_aheadOf 23 = .ok (.iload_n 1, 1) := by decide +kernel
theorem dX2_aheadOf_24 : decode cX2_aheadOf 24 = .ok (.if_icmp .gt 7, 3) := by decide +kernel
theorem dX2_aheadOf_27 : decode cX2_aheadOf 27 = .ok (.iconst 1, 1) := by decide +kernel
theorem dX2_aheadOf_28 : decode cX2_aheadOf 28 = .ok (.goto 4, 3) := by decide +kernel
theorem dX2_aheadOf_31 : decode cX2_aheadOf 31 = .ok (.iconst 0, 1) := by decide +kernel
theorem dX2_aheadOf_32 : decode cX2_aheadOf 32 = .ok (.iadd, 1) := by decide +kernel
theorem dX2_aheadOf_33 : decode cX2_aheadOf 33 = .ok (.istore_n 2, 1) := by decide +kernel
theorem dX2_aheadOf_34 : decode cX2_aheadOf 34 = .ok (.iinc 3 1, 3) := by decide +kernel
theorem dX2_aheadOf_37 : decode cX2_aheadOf 37 = .ok (.goto (-33), 3) := by decide +kernel
theorem dX2_aheadOf_40 : decode cX2_aheadOf 40 = .ok (.iload_n 2, 1) := by decide +kernel
theorem dX2_aheadOf_41 : decode cX2_aheadOf 41 = .ok (.ireturn, 1) := by decide +kernel
theorem dX2_holder_0 : decode cX2_holder 0 = .ok (.iconst 0, 1) := by decide +kernel
theorem dX2_holder_1 : decode cX2_holder 1 = .ok (.istore_n 2, 1) := by decide +kernel
theorem dX2_holder_2 : decode cX2_holder 2 = .ok (.iload_n 2, 1) := by decide +kernel
theorem dX2_holder_3 : decode cX2_holder 3 = .ok (.aload_n 0, 1) := by decide +kernel
theorem dX2_holder_4 : decode cX2_holder 4 = .ok (.getfield 9, 3) := by decide +kernel
theorem dX2_holder_7 : decode cX2_holder 7 = .ok (.if_icmp .ge 31, 3) := by decide +kernel
theorem dX2_holder_10 : decode cX2_holder 10 = .ok (.aload_n 0, 1) := by decide +kernel
theorem dX2_holder_11 : decode cX2_holder 11 = .ok (.getfield 22, 3) := by decide +kernel
theorem dX2_holder_14 : decode cX2_holder 14 = .ok (.iload_n 2, 1) := by decide +kernel
theorem dX2_holder_15 : decode cX2_holder 15 = .ok (.iaload, 1) := by decide +kernel
theorem dX2_holder_16 : decode cX2_holder 16 = .ok (.iload_n 1, 1) := by decide +kernel
theorem dX2_holder_17 : decode cX2_holder 17 = .ok (.if_icmp .gt 15, 3) := by decide +kernel
theorem dX2_holder_20 : decode cX2_holder 20 = .ok (.iload_n 1, 1) := by decide +kernel
theorem dX2_holder_21 : decode cX2_holder 21 = .ok (.aload_n 0, 1) := by decide +kernel
theorem dX2_holder_22 : decode cX2_holder 22 = .ok (.getfield 25, 3) := by decide +kernel
theorem dX2_holder_25 : decode cX2_holder 25 = .ok (.iload_n 2, 1) := by decide +kernel
theorem dX2_holder_26 : decode cX2_holder 26 = .ok (.iaload, 1) := by decide +kernel
theorem dX2_holder_27 : decode cX2_holder 27 = .ok (.if_icmp .ge 5, 3) := by decide +kernel
theorem dX2_holder_30 : decode cX2_holder 30 = .ok (.iload_n 2, 1) := by decide +kernel
theorem dX2_holder_31 : decode cX2_holder 31 = .ok (.ireturn, 1) := by decide +kernel
theorem dX2_holder_32 : decode cX2_holder 32 = .ok (.iinc 2 1, 3) := by decide +kernel
theorem dX2_holder_35 : decode cX2_holder 35 = .ok (.goto (-33), 3) := by decide +kernel
theorem dX2_holder_38 : decode cX2_holder 38 = .ok (.iconst (-1), 1) := by decide +kernel
theorem dX2_holder_39 : decode cX2_holder 39 = .ok (.ireturn, 1) := by decide +kernel
theorem dX2_endingAt_0 : decode cX2_endingAt 0 = .ok (.iconst 0, 1) := by decide +kernel
theorem dX2_endingAt_1 : decode cX2_endingAt 1 = .ok (.istore_n 2, 1) := by decide +kernel
theorem dX2_endingAt_2 : decode cX2_endingAt 2 = .ok (.iload_n 2, 1) := by decide +kernel
theorem dX2_endingAt_3 : decode cX2_endingAt 3 = .ok (.aload_n 0, 1) := by decide +kernel
theorem dX2_endingAt_4 : decode cX2_endingAt 4 = .ok (.getfield 9, 3) := by decide +kernel
theorem dX2_endingAt_7 : decode cX2_endingAt 7 = .ok (.if_icmp .ge 21, 3) := by decide +kernel
theorem dX2_endingAt_10 : decode cX2_endingAt 10 = .ok (.aload_n 0, 1) := by decide +kernel
theorem dX2_endingAt_11 : decode cX2_endingAt 11 = .ok (.getfield 25, 3) := by decide +kernel
theorem dX2_endingAt_14 : decode cX2_endingAt 14 = .ok (.iload_n 2, 1) := by decide +kernel
theorem dX2_endingAt_15 : decode cX2_endingAt 15 = .ok (.iaload, 1) := by decide +kernel
theorem dX2_endingAt_16 : decode cX2_endingAt 16 = .ok (.iload_n 1, 1) := by decide +kernel
theorem dX2_endingAt_17 : decode cX2_endingAt 17 = .ok (.if_icmp .ne 5, 3) := by decide +kernel
theorem dX2_endingAt_20 : decode cX2_endingAt 20 = .ok (.iload_n 2, 1) := by decide +kernel
theorem dX2_endingAt_21 : decode cX2_endingAt 21 = .ok (.ireturn, 1) := by decide +kernel
theorem dX2_endingAt_22 : decode cX2_endingAt 22 = .ok (.iinc 2 1, 3) := by decide +kernel
theorem dX2_endingAt_25 : decode cX2_endingAt 25 = .ok (.goto (-23), 3) := by decide +kernel
theorem dX2_endingAt_28 : decode cX2_endingAt 28 = .ok (.iconst (-1), 1) := by decide +kernel
theorem dX2_endingAt_29 : decode cX2_endingAt 29 = .ok (.ireturn, 1) := by decide +kernel
theorem dX2_hasModesOf_0 : decode cX2_hasModesOf 0 = .ok (.iload_n 1, 1) := by decide +kernel
theorem dX2_hasModesOf_1 : decode cX2_hasModesOf 1 = .ok (.ifCond .lt 23, 3) := by decide +kernel
theorem dX2_hasModesOf_4 : decode cX2_hasModesOf 4 = .ok (.iload_n 1, 1) := by decide +kernel
theorem dX2_hasModesOf_5 : decode cX2_hasModesOf 5 = .ok (.aload_n 0, 1) := by decide +kernel
theorem dX2_hasModesOf_6 : decode cX2_hasModesOf 6 = .ok (.getfield 9, 3) := by decide +kernel
theorem dX2_hasModesOf_9 : decode cX2_hasModesOf 9 = .ok (.if_icmp .ge 15, 3) := by decide +kernel
theorem dX2_hasModesOf_12 : decode cX2_hasModesOf 12 = .ok (.iload_n 3, 1) := by decide +kernel
theorem dX2_hasModesOf_13 : decode cX2_hasModesOf 13 = .ok (.ifCond .lt 11, 3) := by decide +kernel
theorem dX2_hasModesOf_16 : decode cX2_hasModesOf 16 = .ok (.iload_n 3, 1) := by decide +kernel
theorem dX2_hasModesOf_17 : decode cX2_hasModesOf 17 = .ok (.aload_n 2, 1) := by decide +kernel
theorem dX2_hasModesOf_18 : decode cX2_hasModesOf 18 = .ok (.getfield 9, 3) := by decide +kernel
theorem dX2_hasModesOf_21 : decode cX2_hasModesOf 21 = .ok (.if_icmp .lt 5, 3) := by decide +kernel
theorem dX2_hasModesOf_24 : decode cX2_hasModesOf 24 = .ok (.iconst 0, 1) := by decide +kernel
theorem dX2_hasModesOf_25 : decode cX2_hasModesOf 25 = .ok (.ireturn, 1) := by decide +kernel
theorem dX2_hasModesOf_26 : decode cX2_hasModesOf 26 = .ok (.aload_n 0, 1) := by decide +kernel
theorem dX2_hasModesOf_27 : decode cX2_hasModesOf 27 = .ok (.getfield 37, 3) := by decide +kernel
theorem dX2_hasModesOf_30 : decode cX2_hasModesOf 30 = .ok (.iload_n 1, 1) := by decide +kernel
theorem dX2_hasModesOf_31 : decode cX2_hasModesOf 31 = .ok (.iaload, 1) := by decide +kernel
theorem dX2_hasModesOf_32 : decode cX2_hasModesOf 32 = .ok (.aload_n 2, 1) := by decide +kernel
theorem dX2_hasModesOf_33 : decode cX2_hasModesOf 33 = .ok (.getfield 37, 3) := by decide +kernel
theorem dX2_hasModesOf_36 : decode cX2_hasModesOf 36 = .ok (.iload_n 3, 1) := by decide +kernel
theorem dX2_hasModesOf_37 : decode cX2_hasModesOf 37 = .ok (.iaload, 1) := by decide +kernel
theorem dX2_hasModesOf_38 : decode cX2_hasModesOf 38 = .ok (.if_icmp .ne 22, 3) := by decide +kernel
theorem dX2_hasModesOf_41 : decode cX2_hasModesOf 41 = .ok (.aload_n 0, 1) := by decide +kernel
theorem dX2_hasModesOf_42 : decode cX2_hasModesOf 42 = .ok (.getfield 40, 3) := by decide +kernel
theorem dX2_hasModesOf_45 : decode cX2_hasModesOf 45 = .ok (.iload_n 1, 1) := by decide +kernel
theorem dX2_hasModesOf_46 : decode cX2_hasModesOf 46 = .ok (.iaload, 1) := by decide +kernel
theorem dX2_hasModesOf_47 : decode cX2_hasModesOf 47 = .ok (.aload_n 2, 1) := by decide +kernel
theorem dX2_hasModesOf_48 : decode cX2_hasModesOf 48 = .ok (.getfield 40, 3) := by decide +kernel
theorem dX2_hasModesOf_51 : decode cX2_hasModesOf 51 = .ok (.iload_n 3, 1) := by decide +kernel
theorem dX2_hasModesOf_52 : decode cX2_hasModesOf 52 = .ok (.iaload, 1) := by decide +kernel
theorem dX2_hasModesOf_53 : decode cX2_hasModesOf 53 = .ok (.if_icmp .ne 7, 3) := by decide +kernel
theorem dX2_hasModesOf_56 : decode cX2_hasModesOf 56 = .ok (.iconst 1, 1) := by decide +kernel
theorem dX2_hasModesOf_57 : decode cX2_hasModesOf 57 = .ok (.goto 4, 3) := by decide +kernel
theorem dX2_hasModesOf_60 : decode cX2_hasModesOf 60 = .ok (.iconst 0, 1) := by decide +kernel
theorem dX2_hasModesOf_61 : decode cX2_hasModesOf 61 = .ok (.ireturn, 1) := by decide +kernel
theorem dX2_alike_0 : decode cX2_alike 0 = .ok (.iconst 0, 1) := by decide +kernel
theorem dX2_alike_1 : decode cX2_alike 1 = .ok (.istore_n 2, 1) := by decide +kernel
theorem dX2_alike_2 : decode cX2_alike 2 = .ok (.iconst 0, 1) := by decide +kernel
theorem dX2_alike_3 : decode cX2_alike 3 = .ok (.istore_n 3, 1) := by decide +kernel
theorem dX2_alike_4 : decode cX2_alike 4 = .ok (.iload_n 3, 1) := by decide +kernel
theorem dX2_alike_5 : decode cX2_alike 5 = .ok (.aload_n 0, 1) := by decide +kernel
theorem dX2_alike_6 : decode cX2_alike 6 = .ok (.getfield 9, 3) := by decide +kernel
theorem dX2_alike_9 : decode cX2_alike 9 = .ok (.if_icmp .ge 60, 3) := by decide +kernel
theorem dX2_alike_12 : decode cX2_alike 12 = .ok (.iload_n 3, 1) := by decide +kernel
theorem dX2_alike_13 : decode cX2_alike 13 = .ok (.aload_n 1, 1) := by decide +kernel
theorem dX2_alike_14 : decode cX2_alike 14 = .ok (.getfield 9, 3) := by decide +kernel
theorem dX2_alike_17 : decode cX2_alike 17 = .ok (.if_icmp .ge 52, 3) := by decide +kernel
theorem dX2_alike_20 : decode cX2_alike 20 = .ok (.iload_n 3, 1) := by decide +kernel
theorem dX2_alike_21 : decode cX2_alike 21 = .ok (.iload_n 2, 1) := by decide +kernel
theorem dX2_alike_22 : decode cX2_alike 22 = .ok (.if_icmp .ne 47, 3) := by decide +kernel
theorem dX2_alike_25 : decode cX2_alike 25 = .ok (.iload_n 2, 1) := by decide +kernel
theorem dX2_alike_26 : decode cX2_alike 26 = .ok (.aload_n 0, 1) := by decide +kernel
theorem dX2_alike_27 : decode cX2_alike 27 = .ok (.getfield 18, 3) := by decide +kernel
theorem dX2_alike_30 : decode cX2_alike 30 = .ok (.iload_n 3, 1) := by decide +kernel
theorem dX2_alike_31 : decode cX2_alike 31 = .ok (.iaload, 1) := by decide +kernel
theorem dX2_alike_32 : decode cX2_alike 32 = .ok (.aload_n 1, 1) := by decide +kernel
theorem dX2_alike_33 : decode cX2_alike 33 = .ok (.getfield 18, 3) := by decide +kernel
theorem dX2_alike_36 : decode cX2_alike 36 = .ok (.iload_n 3, 1) := by decide +kernel
theorem dX2_alike_37 : decode cX2_alike 37 = .ok (.iaload, 1) := by decide +kernel
theorem dX2_alike_38 : decode cX2_alike 38 = .ok (.if_icmp .ne 22, 3) := by decide +kernel
theorem dX2_alike_41 : decode cX2_alike 41 = .ok (.aload_n 0, 1) := by decide +kernel
theorem dX2_alike_42 : decode cX2_alike 42 = .ok (.getfield 25, 3) := by decide +kernel
theorem dX2_alike_45 : decode cX2_alike 45 = .ok (.iload_n 3, 1) := by decide +kernel
theorem dX2_alike_46 : decode cX2_alike 46 = .ok (.iaload, 1) := by decide +kernel
theorem dX2_alike_47 : decode cX2_alike 47 = .ok (.aload_n 1, 1) := by decide +kernel
theorem dX2_alike_48 : decode cX2_alike 48 = .ok (.getfield 25, 3) := by decide +kernel
theorem dX2_alike_51 : decode cX2_alike 51 = .ok (.iload_n 3, 1) := by decide +kernel
theorem dX2_alike_52 : decode cX2_alike 52 = .ok (.iaload, 1) := by decide +kernel
theorem dX2_alike_53 : decode cX2_alike 53 = .ok (.if_icmp .ne 7, 3) := by decide +kernel
theorem dX2_alike_56 : decode cX2_alike 56 = .ok (.iconst 1, 1) := by decide +kernel
theorem dX2_alike_57 : decode cX2_alike 57 = .ok (.goto 4, 3) := by decide +kernel
theorem dX2_alike_60 : decode cX2_alike 60 = .ok (.iconst 0, 1) := by decide +kernel
theorem dX2_alike_61 : decode cX2_alike 61 = .ok (.iadd, 1) := by decide +kernel
theorem dX2_alike_62 : decode cX2_alike 62 = .ok (.istore_n 2, 1) := by decide +kernel
theorem dX2_alike_63 : decode cX2_alike 63 = .ok (.iinc 3 1, 3) := by decide +kernel
theorem dX2_alike_66 : decode cX2_alike 66 = .ok (.goto (-62), 3) := by decide +kernel
theorem dX2_alike_69 : decode cX2_alike 69 = .ok (.iload_n 2, 1) := by decide +kernel
theorem dX2_alike_70 : decode cX2_alike 70 = .ok (.ireturn, 1) := by decide +kernel
theorem dX2_stuckTokens_0 : decode cX2_stuckTokens 0 = .ok (.iconst 0, 1) := by decide +kernel
theorem dX2_stuckTokens_1 : decode cX2_stuckTokens 1 = .ok (.istore_n 1, 1) := by decide +kernel
theorem dX2_stuckTokens_2 : decode cX2_stuckTokens 2 = .ok (.iconst 0, 1) := by decide +kernel
theorem dX2_stuckTokens_3 : decode cX2_stuckTokens 3 = .ok (.istore_n 2, 1) := by decide +kernel
theorem dX2_stuckTokens_4 : decode cX2_stuckTokens 4 = .ok (.iload_n 2, 1) := by decide +kernel
theorem dX2_stuckTokens_5 : decode cX2_stuckTokens 5 = .ok (.aload_n 0, 1) := by decide +kernel
theorem dX2_stuckTokens_6 : decode cX2_stuckTokens 6 = .ok (.getfield 9, 3) := by decide +kernel
theorem dX2_stuckTokens_9 : decode cX2_stuckTokens 9 = .ok (.if_icmp .ge 27, 3) := by decide +kernel
theorem dX2_stuckTokens_12 : decode cX2_stuckTokens 12 = .ok (.iload_n 1, 1) := by decide +kernel
theorem dX2_stuckTokens_13 : decode cX2_stuckTokens 13 = .ok (.aload_n 0, 1) := by decide +kernel
theorem dX2_stuckTokens_14 : decode cX2_stuckTokens 14 = .ok (.getfield 18, 3) := by decide +kernel
theorem dX2_stuckTokens_17 : decode cX2_stuckTokens 17 = .ok (.iload_n 2, 1) := by decide +kernel
theorem dX2_stuckTokens_18 : decode cX2_stuckTokens 18 = .ok (.iaload, 1) := by decide +kernel
theorem dX2_stuckTokens_19 : decode cX2_stuckTokens 19 = .ok (.iconst (-1), 1) := by decide +kernel
theorem dX2_stuckTokens_20 : decode cX2_stuckTokens 20 = .ok (.if_icmp .ne 7, 3) := by decide +kernel
theorem dX2_stuckTokens_23 : decode cX2_stuckTokens 23 = .ok (.iconst 1, 1) := by decide +kernel
theorem dX2_stuckTokens_24 : decode cX2_stuckTokens 24 = .ok (.goto 4, 3) := by decide +kernel
theorem dX2_stuckTokens_27 : decode cX2_stuckTokens 27 = .ok (.iconst 0, 1) := by decide +kernel
theorem dX2_stuckTokens_28 : decode cX2_stuckTokens 28 = .ok (.iadd, 1) := by decide +kernel
theorem dX2_stuckTokens_29 : decode cX2_stuckTokens 29 = .ok (.istore_n 1, 1) := by decide +kernel
theorem dX2_stuckTokens_30 : decode cX2_stuckTokens 30 = .ok (.iinc 2 1, 3) := by decide +kernel
theorem dX2_stuckTokens_33 : decode cX2_stuckTokens 33 = .ok (.goto (-29), 3) := by decide +kernel
theorem dX2_stuckTokens_36 : decode cX2_stuckTokens 36 = .ok (.iload_n 1, 1) := by decide +kernel
theorem dX2_stuckTokens_37 : decode cX2_stuckTokens 37 = .ok (.ireturn, 1) := by decide +kernel
theorem dX2_signsRead_0 : decode cX2_signsRead 0 = .ok (.iconst 0, 1) := by decide +kernel
theorem dX2_signsRead_1 : decode cX2_signsRead 1 = .ok (.istore_n 1, 1) := by decide +kernel
theorem dX2_signsRead_2 : decode cX2_signsRead 2 = .ok (.iconst 0, 1) := by decide +kernel
theorem dX2_signsRead_3 : decode cX2_signsRead 3 = .ok (.istore_n 2, 1) := by decide +kernel
theorem dX2_signsRead_4 : decode cX2_signsRead 4 = .ok (.iload_n 2, 1) := by decide +kernel
theorem dX2_signsRead_5 : decode cX2_signsRead 5 = .ok (.aload_n 0, 1) := by decide +kernel
theorem dX2_signsRead_6 : decode cX2_signsRead 6 = .ok (.getfield 9, 3) := by decide +kernel
theorem dX2_signsRead_9 : decode cX2_signsRead 9 = .ok (.if_icmp .ge 25, 3) := by decide +kernel
theorem dX2_signsRead_12 : decode cX2_signsRead 12 = .ok (.iload_n 1, 1) := by decide +kernel
theorem dX2_signsRead_13 : decode cX2_signsRead 13 = .ok (.aload_n 0, 1) := by decide +kernel
theorem dX2_signsRead_14 : decode cX2_signsRead 14 = .ok (.getfield 28, 3) := by decide +kernel
theorem dX2_signsRead_17 : decode cX2_signsRead 17 = .ok (.iload_n 2, 1) := by decide +kernel
theorem dX2_signsRead_18 : decode cX2_signsRead 18 = .ok (.iaload, 1) := by decide +kernel
theorem dX2_signsRead_19 : decode cX2_signsRead 19 = .ok (.aload_n 0, 1) := by decide +kernel
theorem dX2_signsRead_20 : decode cX2_signsRead 20 = .ok (.getfield 22, 3) := by decide +kernel
theorem dX2_signsRead_23 : decode cX2_signsRead 23 = .ok (.iload_n 2, 1) := by decide +kernel
theorem dX2_signsRead_24 : decode cX2_signsRead 24 = .ok (.iaload, 1) := by decide +kernel
theorem dX2_signsRead_25 : decode cX2_signsRead 25 = .ok (.isub, 1) := by decide +kernel
theorem dX2_signsRead_26 : decode cX2_signsRead 26 = .ok (.iadd, 1) := by decide +kernel
theorem dX2_signsRead_27 : decode cX2_signsRead 27 = .ok (.istore_n 1, 1) := by decide +kernel
theorem dX2_signsRead_28 : decode cX2_signsRead 28 = .ok (.iinc 2 1, 3) := by decide +kernel
theorem dX2_signsRead_31 : decode cX2_signsRead 31 = .ok (.goto (-27), 3) := by decide +kernel
theorem dX2_signsRead_34 : decode cX2_signsRead 34 = .ok (.iload_n 1, 1) := by decide +kernel
theorem dX2_signsRead_35 : decode cX2_signsRead 35 = .ok (.ireturn, 1) := by decide +kernel
theorem dX3_init_0 : decode cX3_init 0 = .ok (.aload_n 0, 1) := by decide +kernel
theorem dX3_init_1 : decode cX3_init 1 = .ok (.invokespecial 3, 3) := by decide +kernel
theorem dX3_init_4 : decode cX3_init 4 = .ok (.aload_n 0, 1) := by decide +kernel
theorem dX3_init_5 : decode cX3_init 5 = .ok (.iconst 0, 1) := by decide +kernel
theorem dX3_init_6 : decode cX3_init 6 = .ok (.putfield 9, 3) := by decide +kernel
theorem dX3_init_9 : decode cX3_init 9 = .ok (.aload_n 0, 1) := by decide +kernel
theorem dX3_init_10 : decode cX3_init 10 = .ok (.iconst 0, 1) := by decide +kernel
theorem dX3_init_11 : decode cX3_init 11 = .ok (.putfield 15, 3) := by decide +kernel
theorem dX3_init_14 : decode cX3_init 14 = .ok (.return_, 1) := by decide +kernel
theorem dX3_faultOfRules_0 : decode cX3_faultOfRules 0 = .ok (.aload_n 0, 1) := by decide +kernel
theorem dX3_faultOfRules_1 : decode cX3_faultOfRules 1 = .ok (.iconst 0, 1) := by decide +kernel
theorem dX3_faultOfRules_2 : decode cX3_faultOfRules 2 = .ok (.putfield 9, 3) := by decide +kernel
theorem dX3_faultOfRules_5 : decode cX3_faultOfRules 5 = .ok (.aload_n 0, 1) := by decide +kernel
theorem dX3_faultOfRules_6 : decode cX3_faultOfRules 6 = .ok (.iconst 0, 1) := by decide +kernel
theorem dX3_faultOfRules_7 : decode cX3_faultOfRules 7 = .ok (.putfield 15, 3) := by decide +kernel
theorem dX3_faultOfRules_10 : decode cX3_faultOfRules 10 = .ok (.iconst 0, 1) := by decide +kernel
theorem dX3_faultOfRules_11 : decode cX3_faultOfRules 11 = .ok (.istore_n 2, 1) := by decide +kernel
theorem dX3_faultOfRules_12 : decode cX3_faultOfRules 12 = .ok (.iconst 0, 1) := by decide +kernel
theorem dX3_faultOfRules_13 : decode cX3_faultOfRules 13 = .ok (.istore_n 3, 1) := by decide +kernel
theorem dX3_faultOfRules_14 : decode cX3_faultOfRules 14 = .ok (.iload_n 3, 1) := by decide +kernel
theorem dX3_faultOfRules_15 : decode cX3_faultOfRules 15 = .ok (.aload_n 1, 1) := by decide +kernel
theorem dX3_faultOfRules_16 : decode cX3_faultOfRules 16 = .ok (.getfield 18, 3) := by decide +kernel
theorem dX3_faultOfRules_19 : decode cX3_faultOfRules 19 = .ok (.if_icmp .ge 29, 3) := by decide +kernel
theorem dX3_faultOfRules_22 : decode cX3_faultOfRules 22 = .ok (.aload_n 0, 1) := by decide +kernel
theorem dX3_faultOfRules_23 : decode cX3_faultOfRules 23 = .ok (.iload_n 2, 1) := by decide +kernel
theorem dX3_faultOfRules_24 : decode cX3_faultOfRules 24 = .ok (.aload_n 1, 1) := by decide +kernel
theorem dX3_faultOfRules_25 : decode cX3_faultOfRules 25 = .ok (.iload_n 3, 1) := by decide +kernel
theorem dX3_faultOfRules_26 : decode cX3_faultOfRules 26 = .ok (.invokevirtual 23, 3) := by decide +kernel
theorem dX3_faultOfRules_29 : decode cX3_faultOfRules 29 = .ok (.invokevirtual 27, 3) := by decide +kernel
theorem dX3_faultOfRules_32 : decode cX3_faultOfRules 32 = .ok (.istore_n 2, 1) := by decide +kernel
theorem dX3_faultOfRules_33 : decode cX3_faultOfRules 33 = .ok (.iload_n 2, 1) := by decide +kernel
theorem dX3_faultOfRules_34 : decode cX3_faultOfRules 34 = .ok (.iconst (-1), 1) := by decide +kernel
theorem dX3_faultOfRules_35 : decode cX3_faultOfRules 35 = .ok (.if_icmp .ne 7, 3) := by decide +kernel
theorem dX3_faultOfRules_38 : decode cX3_faultOfRules 38 = .ok (.iconst (-1), 1) := by decide +kernel
theorem dX3_faultOfRules_39 : decode cX3_faultOfRules 39 = .ok (.iload_n 3, 1) := by decide +kernel
theorem dX3_faultOfRules_40 : decode cX3_faultOfRules 40 = .ok (.isub, 1) := by decide +kernel
theorem dX3_faultOfRules_41 : decode cX3_faultOfRules 41 = .ok (.ireturn, 1) := by decide +kernel
theorem dX3_faultOfRules_42 : decode cX3_faultOfRules 42 = .ok (.iinc 3 1, 3) := by decide +kernel
theorem dX3_faultOfRules_45 : decode cX3_faultOfRules 45 = .ok (.goto (-31), 3) := by decide +kernel
theorem dX3_faultOfRules_48 : decode cX3_faultOfRules 48 = .ok (.aload_n 1, 1) := by decide +kernel
theorem dX3_faultOfRules_49 : decode cX3_faultOfRules 49 = .ok (.getfield 18, 3) := by decide +kernel
theorem dX3_faultOfRules_52 : decode cX3_faultOfRules 52 = .ok (.ifCond .eq 20, 3) := by decide +kernel
theorem dX3_faultOfRules_55 : decode cX3_faultOfRules 55 = .ok (.iload_n 2, 1) := by decide +kernel
theorem dX3_faultOfRules_56 : decode cX3_faultOfRules 56 = .ok (.iconst 5, 1) := by decide +kernel
theorem dX3_faultOfRules_57 : decode cX3_faultOfRules 57 = .ok (.if_icmp .eq 15, 3) := by decide +kernel
theorem dX3_faultOfRules_60 : decode cX3_faultOfRules 60 = .ok (.iload_n 2, 1) := by decide +kernel
theorem dX3_faultOfRules_61 : decode cX3_faultOfRules 61 = .ok (.iconst 3, 1) := by decide +kernel
theorem dX3_faultOfRules_62 : decode cX3_faultOfRules 62 = .ok (.if_icmp .ne 14, 3) := by decide +kernel
theorem dX3_faultOfRules_65 : decode cX3_faultOfRules 65 = .ok (.aload_n 0, 1) := by decide +kernel
theorem dX3_faultOfRules_66 : decode cX3_faultOfRules 66 = .ok (.getfield 9, 3) := by decide +kernel
theorem dX3_faultOfRules_69 : decode cX3_faultOfRules 69 = .ok (.ifCond .ne 7, 3) := by decide +kernel
theorem dX3_faultOfRules_72 : decode cX3_faultOfRules 72 = .ok (.iconst 1, 1) := by decide +kernel
theorem dX3_faultOfRules_73 : decode cX3_faultOfRules 73 = .ok (.goto 4, 3) := by decide +kernel
theorem dX3_faultOfRules_76 : decode cX3_faultOfRules 76 = .ok (.iconst 0, 1) := by decide +kernel
theorem dX3_faultOfRules_77 : decode cX3_faultOfRules 77 = .ok (.istore_n 3, 1) := by decide +kernel
theorem dX3_faultOfRules_78 : decode cX3_faultOfRules 78 = .ok (.iload_n 3, 1) := by decide +kernel
theorem dX3_faultOfRules_79 : decode cX3_faultOfRules 79 = .ok (.ifCond .eq 7, 3) := by decide +kernel
theorem dX3_faultOfRules_82 : decode cX3_faultOfRules 82 = .ok (.iconst 0, 1) := by decide +kernel
theorem dX3_faultOfRules_83 : decode cX3_faultOfRules 83 = .ok (.goto 9, 3) := by decide +kernel
theorem dX3_faultOfRules_86 : decode cX3_faultOfRules 86 = .ok (.iconst (-1), 1) := by decide +kernel
theorem dX3_faultOfRules_87 : decode cX3_faultOfRules 87 = .ok (.aload_n 1, 1) := by decide +kernel
theorem dX3_faultOfRules_88 : decode cX3_faultOfRules 88 = .ok (.getfield 18, 3) := by decide +kernel
theorem dX3_faultOfRules_91 : decode cX3_faultOfRules 91 = .ok (.isub, 1) := by decide +kernel
theorem dX3_faultOfRules_92 : decode cX3_faultOfRules 92 = .ok (.ireturn, 1) := by decide +kernel
theorem dX3_faultOfLetters_0 : decode cX3_faultOfLetters 0 = .ok (.iconst 0, 1) := by decide +kernel
theorem dX3_faultOfLetters_1 : decode cX3_faultOfLetters 1 = .ok (.istore_n 2, 1) := by decide +kernel
theorem dX3_faultOfLetters_2 : decode cX3_faultOfLetters 2 = .ok (.iload_n 2, 1) := by decide +kernel
theorem dX3_faultOfLetters_3 : decode cX3_faultOfLetters 3 = .ok (.iconst 4, 1) := by decide +kernel
theorem dX3_faultOfLetters_4 : decode cX3_faultOfLetters 4 = .ok (.if_icmp .ge 24, 3) := by decide +kernel
theorem dX3_faultOfLetters_7 : decode cX3_faultOfLetters 7 = .ok (.aload_n 1, 1) := by decide +kernel
theorem dX3_faultOfLetters_8 : decode cX3_faultOfLetters 8 = .ok (.iload_n 2, 1) := by decide +kernel
theorem dX3_faultOfLetters_9 : decode cX3_faultOfLetters 9 = .ok (.invokestatic 31, 3) := by decide +kernel
theorem dX3_faultOfLetters_12 : decode cX3_faultOfLetters 12 = .ok (.bipush 10, 2) := by decide +kernel
theorem dX3_faultOfLetters_14 : decode cX3_faultOfLetters 14 = .ok (.if_icmp .le 8, 3) := by decide +kernel
theorem dX3_faultOfLetters_17 : decode cX3_faultOfLetters 17 = .ok (.bipush (-100), 2) := by decide +kernel
theorem dX3_faultOfLetters_19 : decode cX3_faultOfLetters 19 = .ok (.iload_n 2, 1) := by decide +kernel
theorem dX3_faultOfLetters_20 : decode cX3_faultOfLetters 20 = .ok (.isub, 1) := by decide +kernel
theorem dX3_faultOfLetters_21 : decode cX3_faultOfLetters 21 = .ok (.ireturn, 1) := by decide +kernel
theorem dX3_faultOfLetters_22 : decode cX3_faultOfLetters 22 = .ok (.iinc 2 1, 3) := by decide +kernel
theorem dX3_faultOfLetters_25 : decode cX3_faultOfLetters 25 = .ok (.goto (-23), 3) := by decide +kernel
theorem dX3_faultOfLetters_28 : decode cX3_faultOfLetters 28 = .ok (.iconst 0, 1) := by decide +kernel
theorem dX3_faultOfLetters_29 : decode cX3_faultOfLetters 29 = .ok (.ireturn, 1) := by decide +kernel
theorem dX3_faultOfLine_0 : decode cX3_faultOfLine 0 = .ok (.iconst 0, 1) := by decide +kernel
theorem dX3_faultOfLine_1 : decode cX3_faultOfLine 1 = .ok (.istore_n 2, 1) := by decide +kernel
theorem dX3_faultOfLine_2 : decode cX3_faultOfLine 2 = .ok (.iload_n 2, 1) := by decide +kernel
theorem dX3_faultOfLine_3 : decode cX3_faultOfLine 3 = .ok (.aload_n 1, 1) := by decide +kernel
theorem dX3_faultOfLine_4 : decode cX3_faultOfLine 4 = .ok (.getfield 18, 3) := by decide +kernel
theorem dX3_faultOfLine_7 : decode cX3_faultOfLine 7 = .ok (.if_icmp .ge 30, 3) := by decide +kernel
theorem dX3_faultOfLine_10 : decode cX3_faultOfLine 10 = .ok (.iload_n 2, 1) := by decide +kernel
theorem dX3_faultOfLine_11 : decode cX3_faultOfLine 11 = .ok (.bipush 24, 2) := by decide +kernel
theorem dX3_faultOfLine_13 : decode cX3_faultOfLine 13 = .ok (.if_icmp .ge 14, 3) := by decide +kernel
theorem dX3_faultOfLine_16 : decode cX3_faultOfLine 16 = .ok (.aload_n 1, 1) := by decide +kernel
theorem dX3_faultOfLine_17 : decode cX3_faultOfLine 17 = .ok (.iload_n 2, 1) := by decide +kernel
theorem dX3_faultOfLine_18 : decode cX3_faultOfLine 18 = .ok (.invokevirtual 23, 3) := by decide +kernel
theorem dX3_faultOfLine_21 : decode cX3_faultOfLine 21 = .ok (.invokestatic 35, 3) := by decide +kernel
theorem dX3_faultOfLine_24 : decode cX3_faultOfLine 24 = .ok (.ifCond .ne 7, 3) := by decide +kernel
theorem dX3_faultOfLine_27 : decode cX3_faultOfLine 27 = .ok (.iconst (-1), 1) := by decide +kernel
theorem dX3_faultOfLine_28 : decode cX3_faultOfLine 28 = .ok (.iload_n 2, 1) := by decide +kernel
theorem dX3_faultOfLine_29 : decode cX3_faultOfLine 29 = .ok (.isub, 1) := by decide +kernel
theorem dX3_faultOfLine_30 : decode cX3_faultOfLine 30 = .ok (.ireturn, 1) := by decide +kernel
theorem dX3_faultOfLine_31 : decode cX3_faultOfLine 31 = .ok (.iinc 2 1, 3) := by decide +kernel
theorem dX3_faultOfLine_34 : decode cX3_faultOfLine 34 = .ok (.goto (-32), 3) := by decide +kernel
theorem dX3_faultOfLine_37 : decode cX3_faultOfLine 37 = .ok (.iconst 0, 1) := by decide +kernel
theorem dX3_faultOfLine_38 : decode cX3_faultOfLine 38 = .ok (.ireturn, 1) := by decide +kernel
theorem dX3_faultOfDay_0 : decode cX3_faultOfDay 0 = .ok (.iconst (-1), 1) := by decide +kernel
theorem dX3_faultOfDay_1 : decode cX3_faultOfDay 1 = .ok (.istore_n 2, 1) := by decide +kernel
theorem dX3_faultOfDay_2 : decode cX3_faultOfDay 2 = .ok (.iconst 0, 1) := by decide +kernel
theorem dX3_faultOfDay_3 : decode cX3_faultOfDay 3 = .ok (.istore_n 3, 1) := by decide +kernel
theorem dX3_faultOfDay_4 : decode cX3_faultOfDay 4 = .ok (.iconst 0, 1) := by decide +kernel
theorem dX3_faultOfDay_5 : decode cX3_faultOfDay 5 = .ok (.istore 4, 2) := by decide +kernel
theorem dX3_faultOfDay_7 : decode cX3_faultOfDay 7 = .ok (.iload 4, 2) := by decide +kernel
theorem dX3_faultOfDay_9 : decode cX3_faultOfDay 9 = .ok (.aload_n 1, 1) := by decide +kernel
theorem dX3_faultOfDay_10 : decode cX3_faultOfDay 10 = .ok (.getfield 18, 3) := by decide +kernel
theorem dX3_faultOfDay_13 : decode cX3_faultOfDay 13 = .ok (.if_icmp .ge 109, 3) := by decide +kernel
theorem dX3_faultOfDay_16 : decode cX3_faultOfDay 16 = .ok (.aload_n 1, 1) := by decide +kernel
theorem dX3_faultOfDay_17 : decode cX3_faultOfDay 17 = .ok (.iload 4, 2) := by decide +kernel
theorem dX3_faultOfDay_19 : decode cX3_faultOfDay 19 = .ok (.invokevirtual 23, 3) := by decide +kernel
theorem dX3_faultOfDay_22 : decode cX3_faultOfDay 22 = .ok (.istore 5, 2) := by decide +kernel
theorem dX3_faultOfDay_24 : decode cX3_faultOfDay 24 = .ok (.iload_n 3, 1) := by decide +kernel
theorem dX3_faultOfDay_25 : decode cX3_faultOfDay 25 = .ok (.ifCond .ne 9, 3) := by decide +kernel
theorem dX3_faultOfDay_28 : decode cX3_faultOfDay 28 = .ok (.iload 5, 2) := by decide +kernel
theorem dX3_faultOfDay_30 : decode cX3_faultOfDay 30 = .ok (.invokestatic 39, 3) := by decide +kernel
theorem dX3_faultOfDay_33 : decode cX3_faultOfDay 33 = .ok (.istore_n 2, 1) := by decide +kernel
theorem dX3_faultOfDay_34 : decode cX3_faultOfDay 34 = .ok (.iload_n 3, 1) := by decide +kernel
theorem dX3_faultOfDay_35 : decode cX3_faultOfDay 35 = .ok (.ifCond .ne 16, 3) := by decide +kernel
theorem dX3_faultOfDay_38 : decode cX3_faultOfDay 38 = .ok (.iload_n 2, 1) := by decide +kernel
theorem dX3_faultOfDay_39 : decode cX3_faultOfDay 39 = .ok (.iconst (-1), 1) := by decide +kernel
theorem dX3_faultOfDay_40 : decode cX3_faultOfDay 40 = .ok (.if_icmp .eq 7, 3) := by decide +kernel
theorem dX3_faultOfDay_43 : decode cX3_faultOfDay 43 = .ok (.iconst 1, 1) := by decide +kernel
theorem dX3_faultOfDay_44 : decode cX3_faultOfDay 44 = .ok (.goto 25, 3) := by decide +kernel
theorem dX3_faultOfDay_47 : decode cX3_faultOfDay 47 = .ok (.iconst 0, 1) := by decide +kernel
theorem dX3_faultOfDay_48 : decode cX3_faultOfDay 48 = .ok (.goto 21, 3) := by decide +kernel
theorem dX3_faultOfDay_51 : decode cX3_faultOfDay 51 = .ok (.iload_n 3, 1) := by decide +kernel
theorem dX3_faultOfDay_52 : decode cX3_faultOfDay 52 = .ok (.iconst 3, 1) := by decide +kernel
theorem dX3_faultOfDay_53 : decode cX3_faultOfDay 53 = .ok (.if_icmp .ge 11, 3) := by decide +kernel
theorem dX3_faultOfDay_56 : decode cX3_faultOfDay 56 = .ok (.iload 5, 2) := by decide +kernel
theorem dX3_faultOfDay_58 : decode cX3_faultOfDay 58 = .ok (.invokestatic 42, 3) := by decide +kernel
theorem dX3_faultOfDay_61 : decode cX3_faultOfDay 61 = .ok (.goto 8, 3) := by decide +kernel
theorem dX3_faultOfDay_64 : decode cX3_faultOfDay 64 = .ok (.iload 5, 2) := by decide +kernel
theorem dX3_faultOfDay_66 : decode cX3_faultOfDay 66 = .ok (.invokestatic 35, 3) := by decide +kernel
theorem dX3_faultOfDay_69 : decode cX3_faultOfDay 69 = .ok (.istore 6, 2) := by decide +kernel
theorem dX3_faultOfDay_71 : decode cX3_faultOfDay 71 = .ok (.iload 6, 2) := by decide +kernel
theorem dX3_faultOfDay_73 : decode cX3_faultOfDay 73 = .ok (.ifCond .ne 8, 3) := by decide +kernel
theorem dX3_faultOfDay_76 : decode cX3_faultOfDay 76 = .ok (.iconst (-1), 1) := by decide +kernel
theorem dX3_faultOfDay_77 : decode cX3_faultOfDay 77 = .ok (.iload 4, 2) := by decide +kernel
theorem dX3_faultOfDay_79 : decode cX3_faultOfDay 79 = .ok (.isub, 1) := by decide +kernel
theorem dX3_faultOfDay_80 : decode cX3_faultOfDay 80 = .ok (.ireturn, 1) := by decide +kernel
theorem dX3_faultOfDay_81 : decode cX3_faultOfDay 81 = .ok (.iload_n 3, 1) := by decide +kernel
theorem dX3_faultOfDay_82 : decode cX3_faultOfDay 82 = .ok (.iconst 3, 1) := by decide +kernel
theorem dX3_faultOfDay_83 : decode cX3_faultOfDay 83 = .ok (.if_icmp .eq 13, 3) := by decide +kernel
theorem dX3_faultOfDay_86 : decode cX3_faultOfDay 86 = .ok (.iload_n 3, 1) := by decide +kernel
theorem dX3_faultOfDay_87 : decode cX3_faultOfDay 87 = .ok (.iconst 2, 1) := by decide +kernel
theorem dX3_faultOfDay_88 : decode cX3_faultOfDay 88 = .ok (.if_icmp .ne 12, 3) := by decide +kernel
theorem dX3_faultOfDay_91 : decode cX3_faultOfDay 91 = .ok (.iload_n 2, 1) := by decide +kernel
theorem dX3_faultOfDay_92 : decode cX3_faultOfDay 92 = .ok (.iconst 2, 1) := by decide +kernel
theorem dX3_faultOfDay_93 : decode cX3_faultOfDay 93 = .ok (.if_icmp .ne 7, 3) := by decide +kernel
theorem dX3_faultOfDay_96 : decode cX3_faultOfDay 96 = .ok (.iconst 1, 1) := by decide +kernel
theorem dX3_faultOfDay_97 : decode cX3_faultOfDay 97 = .ok (.goto 4, 3) := by decide +kernel
theorem dX3_faultOfDay_100 : decode cX3_faultOfDay 100 = .ok (.iconst 0, 1) := by decide +kernel
theorem dX3_faultOfDay_101 : decode cX3_faultOfDay 101 = .ok (.istore 7, 2) := by decide +kernel
theorem dX3_faultOfDay_103 : decode cX3_faultOfDay 103 = .ok (.iload 7, 2) := by decide +kernel
theorem dX3_faultOfDay_105 : decode cX3_faultOfDay 105 = .ok (.ifCond .eq 7, 3) := by decide +kernel
theorem dX3_faultOfDay_108 : decode cX3_faultOfDay 108 = .ok (.iconst 0, 1) := by decide +kernel
theorem dX3_faultOfDay_109 : decode cX3_faultOfDay 109 = .ok (.goto 6, 3) := by decide +kernel
theorem dX3_faultOfDay_112 : decode cX3_faultOfDay 112 = .ok (.iload_n 3, 1) := by decide +kernel
theorem dX3_faultOfDay_113 : decode cX3_faultOfDay 113 = .ok (.iconst 1, 1) := by decide +kernel
theorem dX3_faultOfDay_114 : decode cX3_faultOfDay 114 = .ok (.iadd, 1) := by decide +kernel
theorem dX3_faultOfDay_115 : decode cX3_faultOfDay 115 = .ok (.istore_n 3, 1) := by decide +kernel
theorem dX3_faultOfDay_116 : decode cX3_faultOfDay 116 = .ok (.iinc 4 1, 3) := by decide +kernel
theorem dX3_faultOfDay_119 : decode cX3_faultOfDay 119 = .ok (.goto (-112), 3) := by decide +kernel
theorem dX3_faultOfDay_122 : decode cX3_faultOfDay 122 = .ok (.iload_n 3, 1) := by decide +kernel
theorem dX3_faultOfDay_123 : decode cX3_faultOfDay 123 = .ok (.ifCond .ne 7, 3) := by decide +kernel
theorem dX3_faultOfDay_126 : decode cX3_faultOfDay 126 = .ok (.iconst 0, 1) := by decide +kernel
theorem dX3_faultOfDay_127 : decode cX3_faultOfDay 127 = .ok (.goto 9, 3) := by decide +kernel
theorem dX3_faultOfDay_130 : decode cX3_faultOfDay 130 = .ok (.iconst (-1), 1) := by decide +kernel
theorem dX3_faultOfDay_131 : decode cX3_faultOfDay 131 = .ok (.aload_n 1, 1) := by decide +kernel
theorem dX3_faultOfDay_132 : decode cX3_faultOfDay 132 = .ok (.getfield 18, 3) := by decide +kernel
theorem dX3_faultOfDay_135 : decode cX3_faultOfDay 135 = .ok (.isub, 1) := by decide +kernel
theorem dX3_faultOfDay_136 : decode cX3_faultOfDay 136 = .ok (.ireturn, 1) := by decide +kernel
theorem dX3_kindOfChange_0 : decode cX3_kindOfChange 0 = .ok (.iload_n 0, 1) := by decide +kernel
theorem dX3_kindOfChange_1 : decode cX3_kindOfChange 1 = .ok (.bipush 114, 2) := by decide +kernel
theorem dX3_kindOfChange_3 : decode cX3_kindOfChange 3 = .ok (.if_icmp .ne 5, 3) := by decide +kernel
theorem dX3_kindOfChange_6 : decode cX3_kindOfChange 6 = .ok (.iconst 0, 1) := by decide +kernel
theorem dX3_kindOfChange_7 : decode cX3_kindOfChange 7 = .ok (.ireturn, 1) := by decide +kernel
theorem dX3_kindOfChange_8 : decode cX3_kindOfChange 8 = .ok (.iload_n 0, 1) := by decide +kernel
theorem dX3_kindOfChange_9 : decode cX3_kindOfChange 9 = .ok (.bipush 105, 2) := by decide +kernel
theorem dX3_kindOfChange_11 : decode cX3_kindOfChange 11 = .ok (.if_icmp .ne 5, 3) := by decide +kernel
theorem dX3_kindOfChange_14 : decode cX3_kindOfChange 14 = .ok (.iconst 1, 1) := by decide +kernel
theorem dX3_kindOfChange_15 : decode cX3_kindOfChange 15 = .ok (.ireturn, 1) := by decide +kernel
theorem dX3_kindOfChange_16 : decode cX3_kindOfChange 16 = .ok (.iload_n 0, 1) := by decide +kernel
theorem dX3_kindOfChange_17 : decode cX3_kindOfChange 17 = .ok (.bipush 100, 2) := by decide +kernel
theorem dX3_kindOfChange_19 : decode cX3_kindOfChange 19 = .ok (.if_icmp .ne 7, 3) := by decide +kernel
theorem dX3_kindOfChange_22 : decode cX3_kindOfChange 22 = .ok (.iconst 2, 1) := by decide +kernel
theorem dX3_kindOfChange_23 : decode cX3_kindOfChange 23 = .ok (.goto 4, 3) := by decide +kernel
theorem dX3_kindOfChange_26 : decode cX3_kindOfChange 26 = .ok (.iconst (-1), 1) := by decide +kernel
theorem dX3_kindOfChange_27 : decode cX3_kindOfChange 27 = .ok (.ireturn, 1) := by decide +kernel
theorem dX3_isLetter_0 : decode cX3_isLetter 0 = .ok (.iload_n 0, 1) := by decide +kernel
theorem dX3_isLetter_1 : decode cX3_isLetter 1 = .ok (.bipush 46, 2) := by decide +kernel
theorem dX3_isLetter_3 : decode cX3_isLetter 3 = .ok (.if_icmp .eq 10, 3) := by decide +kernel
theorem dX3_isLetter_6 : decode cX3_isLetter 6 = .ok (.iload_n 0, 1) := by decide +kernel
theorem dX3_isLetter_7 : decode cX3_isLetter 7 = .ok (.invokestatic 35, 3) := by decide +kernel
theorem dX3_isLetter_10 : decode cX3_isLetter 10 = .ok (.ifCond .eq 7, 3) := by decide +kernel
theorem dX3_isLetter_13 : decode cX3_isLetter 13 = .ok (.iconst 1, 1) := by decide +kernel
theorem dX3_isLetter_14 : decode cX3_isLetter 14 = .ok (.goto 4, 3) := by decide +kernel
theorem dX3_isLetter_17 : decode cX3_isLetter 17 = .ok (.iconst 0, 1) := by decide +kernel
theorem dX3_isLetter_18 : decode cX3_isLetter 18 = .ok (.ireturn, 1) := by decide +kernel
theorem dX3_isSign_0 : decode cX3_isSign 0 = .ok (.iload_n 0, 1) := by decide +kernel
theorem dX3_isSign_1 : decode cX3_isSign 1 = .ok (.bipush 97, 2) := by decide +kernel
theorem dX3_isSign_3 : decode cX3_isSign 3 = .ok (.if_icmp .lt 13, 3) := by decide +kernel
theorem dX3_isSign_6 : decode cX3_isSign 6 = .ok (.iload_n 0, 1) := by decide +kernel
theorem dX3_isSign_7 : decode cX3_isSign 7 = .ok (.bipush 104, 2) := by decide +kernel
theorem dX3_isSign_9 : decode cX3_isSign 9 = .ok (.if_icmp .gt 7, 3) := by decide +kernel
theorem dX3_isSign_12 : decode cX3_isSign 12 = .ok (.iconst 1, 1) := by decide +kernel
theorem dX3_isSign_13 : decode cX3_isSign 13 = .ok (.goto 4, 3) := by decide +kernel
theorem dX3_isSign_16 : decode cX3_isSign 16 = .ok (.iconst 0, 1) := by decide +kernel
theorem dX3_isSign_17 : decode cX3_isSign 17 = .ok (.ireturn, 1) := by decide +kernel
theorem dX3_isDigit_0 : decode cX3_isDigit 0 = .ok (.iload_n 0, 1) := by decide +kernel
theorem dX3_isDigit_1 : decode cX3_isDigit 1 = .ok (.bipush 48, 2) := by decide +kernel
theorem dX3_isDigit_3 : decode cX3_isDigit 3 = .ok (.if_icmp .lt 13, 3) := by decide +kernel
theorem dX3_isDigit_6 : decode cX3_isDigit 6 = .ok (.iload_n 0, 1) := by decide +kernel
theorem dX3_isDigit_7 : decode cX3_isDigit 7 = .ok (.bipush 57, 2) := by decide +kernel
theorem dX3_isDigit_9 : decode cX3_isDigit 9 = .ok (.if_icmp .gt 7, 3) := by decide +kernel
theorem dX3_isDigit_12 : decode cX3_isDigit 12 = .ok (.iconst 1, 1) := by decide +kernel
theorem dX3_isDigit_13 : decode cX3_isDigit 13 = .ok (.goto 4, 3) := by decide +kernel
theorem dX3_isDigit_16 : decode cX3_isDigit 16 = .ok (.iconst 0, 1) := by decide +kernel
theorem dX3_isDigit_17 : decode cX3_isDigit 17 = .ok (.ireturn, 1) := by decide +kernel
theorem dX3_isModeDigit_0 : decode cX3_isModeDigit 0 = .ok (.iload_n 0, 1) := by decide +kernel
theorem dX3_isModeDigit_1 : decode cX3_isModeDigit 1 = .ok (.bipush 48, 2) := by decide +kernel
theorem dX3_isModeDigit_3 : decode cX3_isModeDigit 3 = .ok (.if_icmp .lt 13, 3) := by decide +kernel
theorem dX3_isModeDigit_6 : decode cX3_isModeDigit 6 = .ok (.iload_n 0, 1) := by decide +kernel
theorem dX3_isModeDigit_7 : decode cX3_isModeDigit 7 = .ok (.bipush 51, 2) := by decide +kernel
theorem dX3_isModeDigit_9 : decode cX3_isModeDigit 9 = .ok (.if_icmp .gt 7, 3) := by decide +kernel
theorem dX3_isModeDigit_12 : decode cX3_isModeDigit 12 = .ok (.iconst 1, 1) := by decide +kernel
theorem dX3_isModeDigit_13 : decode cX3_isModeDigit 13 = .ok (.goto 4, 3) := by decide +kernel
theorem dX3_isModeDigit_16 : decode cX3_isModeDigit 16 = .ok (.iconst 0, 1) := by decide +kernel
theorem dX3_isModeDigit_17 : decode cX3_isModeDigit 17 = .ok (.ireturn, 1) := by decide +kernel
theorem dX3_dueBehind_0 : decode cX3_dueBehind 0 = .ok (.iload_n 1, 1) := by decide +kernel
theorem dX3_dueBehind_1 : decode cX3_dueBehind 1 = .ok (.tableswitch 85 0 4 #[35, 48, 60, 66, 72], 35) := by decide +kernel
theorem dX3_dueBehind_36 : decode cX3_dueBehind 36 = .ok (.iload_n 2, 1) := by decide +kernel
theorem dX3_dueBehind_37 : decode cX3_dueBehind 37 = .ok (.invokestatic 45, 3) := by decide +kernel
theorem dX3_dueBehind_40 : decode cX3_dueBehind 40 = .ok (.ifCond .eq 7, 3) := by decide +kernel
theorem dX3_dueBehind_43 : decode cX3_dueBehind 43 = .ok (.iconst 1, 1) := by decide +kernel
theorem dX3_dueBehind_44 : decode cX3_dueBehind 44 = .ok (.goto 4, 3) := by decide +kernel
theorem dX3_dueBehind_47 : decode cX3_dueBehind 47 = .ok (.iconst (-1), 1) := by decide +kernel
theorem dX3_dueBehind_48 : decode cX3_dueBehind 48 = .ok (.ireturn, 1) := by decide +kernel
theorem dX3_dueBehind_49 : decode cX3_dueBehind 49 = .ok (.iload_n 2, 1) := by decide +kernel
theorem dX3_dueBehind_50 : decode cX3_dueBehind 50 = .ok (.bipush 58, 2) := by decide +kernel
theorem dX3_dueBehind_52 : decode cX3_dueBehind 52 = .ok (.if_icmp .ne 7, 3) := by decide +kernel
theorem dX3_dueBehind_55 : decode cX3_dueBehind 55 = .ok (.iconst 2, 1) := by decide +kernel
theorem dX3_dueBehind_56 : decode cX3_dueBehind 56 = .ok (.goto 4, 3) := by decide +kernel
theorem dX3_dueBehind_59 : decode cX3_dueBehind 59 = .ok (.iconst (-1), 1) := by decide +kernel
theorem dX3_dueBehind_60 : decode cX3_dueBehind 60 = .ok (.ireturn, 1) := by decide +kernel
theorem dX3_dueBehind_61 : decode cX3_dueBehind 61 = .ok (.aload_n 0, 1) := by decide +kernel
theorem dX3_dueBehind_62 : decode cX3_dueBehind 62 = .ok (.iload_n 2, 1) := by decide +kernel
theorem dX3_dueBehind_63 : decode cX3_dueBehind 63 = .ok (.invokevirtual 48, 3) := by decide +kernel
theorem dX3_dueBehind_66 : decode cX3_dueBehind 66 = .ok (.ireturn, 1) := by decide +kernel
theorem dX3_dueBehind_67 : decode cX3_dueBehind 67 = .ok (.aload_n 0, 1) := by decide +kernel
theorem dX3_dueBehind_68 : decode cX3_dueBehind 68 = .ok (.iload_n 2, 1) := by decide +kernel
theorem dX3_dueBehind_69 : decode cX3_dueBehind 69 = .ok (.invokevirtual 51, 3) := by decide +kernel
theorem dX3_dueBehind_72 : decode cX3_dueBehind 72 = .ok (.ireturn, 1) := by decide +kernel
theorem dX3_dueBehind_73 : decode cX3_dueBehind 73 = .ok (.iload_n 2, 1) := by decide +kernel
theorem dX3_dueBehind_74 : decode cX3_dueBehind 74 = .ok (.invokestatic 45, 3) := by decide +kernel
theorem dX3_dueBehind_77 : decode cX3_dueBehind 77 = .ok (.ifCond .eq 7, 3) := by decide +kernel
theorem dX3_dueBehind_80 : decode cX3_dueBehind 80 = .ok (.iconst 5, 1) := by decide +kernel
theorem dX3_dueBehind_81 : decode cX3_dueBehind 81 = .ok (.goto 4, 3) := by decide +kernel
theorem dX3_dueBehind_84 : decode cX3_dueBehind 84 = .ok (.iconst (-1), 1) := by decide +kernel
theorem dX3_dueBehind_85 : decode cX3_dueBehind 85 = .ok (.ireturn, 1) := by decide +kernel
theorem dX3_dueBehind_86 : decode cX3_dueBehind 86 = .ok (.iload_n 2, 1) := by decide +kernel
theorem dX3_dueBehind_87 : decode cX3_dueBehind 87 = .ok (.bipush 59, 2) := by decide +kernel
theorem dX3_dueBehind_89 : decode cX3_dueBehind 89 = .ok (.if_icmp .ne 10, 3) := by decide +kernel
theorem dX3_dueBehind_92 : decode cX3_dueBehind 92 = .ok (.aload_n 0, 1) := by decide +kernel
theorem dX3_dueBehind_93 : decode cX3_dueBehind 93 = .ok (.invokevirtual 54, 3) := by decide +kernel
theorem dX3_dueBehind_96 : decode cX3_dueBehind 96 = .ok (.goto 4, 3) := by decide +kernel
theorem dX3_dueBehind_99 : decode cX3_dueBehind 99 = .ok (.iconst (-1), 1) := by decide +kernel
theorem dX3_dueBehind_100 : decode cX3_dueBehind 100 = .ok (.ireturn, 1) := by decide +kernel
theorem dX3_dueInPart_0 : decode cX3_dueInPart 0 = .ok (.iload_n 1, 1) := by decide +kernel
theorem dX3_dueInPart_1 : decode cX3_dueInPart 1 = .ok (.invokestatic 58, 3) := by decide +kernel
theorem dX3_dueInPart_4 : decode cX3_dueInPart 4 = .ok (.ifCond .eq 5, 3) := by decide +kernel
theorem dX3_dueInPart_7 : decode cX3_dueInPart 7 = .ok (.iconst 3, 1) := by decide +kernel
theorem dX3_dueInPart_8 : decode cX3_dueInPart 8 = .ok (.ireturn, 1) := by decide +kernel
theorem dX3_dueInPart_9 : decode cX3_dueInPart 9 = .ok (.iload_n 1, 1) := by decide +kernel
theorem dX3_dueInPart_10 : decode cX3_dueInPart 10 = .ok (.bipush 40, 2) := by decide +kernel
theorem dX3_dueInPart_12 : decode cX3_dueInPart 12 = .ok (.if_icmp .ne 12, 3) := by decide +kernel
theorem dX3_dueInPart_15 : decode cX3_dueInPart 15 = .ok (.aload_n 0, 1) := by decide +kernel
theorem dX3_dueInPart_16 : decode cX3_dueInPart 16 = .ok (.getfield 9, 3) := by decide +kernel
theorem dX3_dueInPart_19 : decode cX3_dueInPart 19 = .ok (.bipush 6, 2) := by decide +kernel
theorem dX3_dueInPart_21 : decode cX3_dueInPart 21 = .ok (.if_icmp .lt 5, 3) := by decide +kernel
theorem dX3_dueInPart_24 : decode cX3_dueInPart 24 = .ok (.iconst (-1), 1) := by decide +kernel
theorem dX3_dueInPart_25 : decode cX3_dueInPart 25 = .ok (.ireturn, 1) := by decide +kernel
theorem dX3_dueInPart_26 : decode cX3_dueInPart 26 = .ok (.aload_n 0, 1) := by decide +kernel
theorem dX3_dueInPart_27 : decode cX3_dueInPart 27 = .ok (.dup, 1) := by decide +kernel
theorem dX3_dueInPart_28 : decode cX3_dueInPart 28 = .ok (.getfield 9, 3) := by decide +kernel
theorem dX3_dueInPart_31 : decode cX3_dueInPart 31 = .ok (.iconst 1, 1) := by decide +kernel
theorem dX3_dueInPart_32 : decode cX3_dueInPart 32 = .ok (.iadd, 1) := by decide +kernel
theorem dX3_dueInPart_33 : decode cX3_dueInPart 33 = .ok (.putfield 9, 3) := by decide +kernel
theorem dX3_dueInPart_36 : decode cX3_dueInPart 36 = .ok (.iconst 2, 1) := by decide +kernel
theorem dX3_dueInPart_37 : decode cX3_dueInPart 37 = .ok (.ireturn, 1) := by decide +kernel
theorem dX3_dueBehindPart_0 : decode cX3_dueBehindPart 0 = .ok (.iload_n 1, 1) := by decide +kernel
theorem dX3_dueBehindPart_1 : decode cX3_dueBehindPart 1 = .ok (.invokestatic 58, 3) := by decide +kernel
theorem dX3_dueBehindPart_4 : decode cX3_dueBehindPart 4 = .ok (.ifCond .ne 9, 3) := by decide +kernel
theorem dX3_dueBehindPart_7 : decode cX3_dueBehindPart 7 = .ok (.iload_n 1, 1) := by decide +kernel
theorem dX3_dueBehindPart_8 : decode cX3_dueBehindPart 8 = .ok (.bipush 40, 2) := by decide +kernel
theorem dX3_dueBehindPart_10 : decode cX3_dueBehindPart 10 = .ok (.if_icmp .ne 9, 3) := by decide +kernel
theorem dX3_dueBehindPart_13 : decode cX3_dueBehindPart 13 = .ok (.aload_n 0, 1) := by decide +kernel
theorem dX3_dueBehindPart_14 : decode cX3_dueBehindPart 14 = .ok (.iload_n 1, 1) := by decide +kernel
theorem dX3_dueBehindPart_15 : decode cX3_dueBehindPart 15 = .ok (.invokevirtual 48, 3) := by decide +kernel
theorem dX3_dueBehindPart_18 : decode cX3_dueBehindPart 18 = .ok (.ireturn, 1) := by decide +kernel
theorem dX3_dueBehindPart_19 : decode cX3_dueBehindPart 19 = .ok (.iload_n 1, 1) := by decide +kernel
theorem dX3_dueBehindPart_20 : decode cX3_dueBehindPart 20 = .ok (.lookupswitch 153 #[(41, 88), (42, 84), (43, 84), (59, 137), (60, 111), (61, 124), (62, 124), (63, 84), (124, 86)], 84) := by decide +kernel
theorem dX3_dueBehindPart_104 : decode cX3_dueBehindPart 104 = .ok (.iconst 3, 1) := by decide +kernel
theorem dX3_dueBehindPart_105 : decode cX3_dueBehindPart 105 = .ok (.ireturn, 1) := by decide +kernel
theorem dX3_dueBehindPart_106 : decode cX3_dueBehindPart 106 = .ok (.iconst 2, 1) := by decide +kernel
theorem dX3_dueBehindPart_107 : decode cX3_dueBehindPart 107 = .ok (.ireturn, 1) := by decide +kernel
theorem dX3_dueBehindPart_108 : decode cX3_dueBehindPart 108 = .ok (.aload_n 0, 1) := by decide +kernel
theorem dX3_dueBehindPart_109 : decode cX3_dueBehindPart 109 = .ok (.dup, 1) := by decide +kernel
theorem dX3_dueBehindPart_110 : decode cX3_dueBehindPart 110 = .ok (.getfield 9, 3) := by decide +kernel
theorem dX3_dueBehindPart_113 : decode cX3_dueBehindPart 113 = .ok (.iconst 1, 1) := by decide +kernel
theorem dX3_dueBehindPart_114 : decode cX3_dueBehindPart 114 = .ok (.isub, 1) := by decide +kernel
theorem dX3_dueBehindPart_115 : decode cX3_dueBehindPart 115 = .ok (.putfield 9, 3) := by decide +kernel
theorem dX3_dueBehindPart_118 : decode cX3_dueBehindPart 118 = .ok (.aload_n 0, 1) := by decide +kernel
theorem dX3_dueBehindPart_119 : decode cX3_dueBehindPart 119 = .ok (.getfield 9, 3) := by decide +kernel
theorem dX3_dueBehindPart_122 : decode cX3_dueBehindPart 122 = .ok (.ifCond .ge 7, 3) := by decide +kernel
theorem dX3_dueBehindPart_125 : decode cX3_dueBehindPart 125 = .ok (.iconst (-1), 1) := by decide +kernel
theorem dX3_dueBehindPart_126 : decode cX3_dueBehindPart 126 = .ok (.goto 4, 3) := by decide +kernel
theorem dX3_dueBehindPart_129 : decode cX3_dueBehindPart 129 = .ok (.iconst 3, 1) := by decide +kernel
theorem dX3_dueBehindPart_130 : decode cX3_dueBehindPart 130 = .ok (.ireturn, 1) := by decide +kernel
theorem dX3_dueBehindPart_131 : decode cX3_dueBehindPart 131 = .ok (.aload_n 0, 1) := by decide +kernel
theorem dX3_dueBehindPart_132 : decode cX3_dueBehindPart 132 = .ok (.getfield 9, 3) := by decide +kernel
theorem dX3_dueBehindPart_135 : decode cX3_dueBehindPart 135 = .ok (.ifCond .ne 7, 3) := by decide +kernel
theorem dX3_dueBehindPart_138 : decode cX3_dueBehindPart 138 = .ok (.iconst 5, 1) := by decide +kernel
theorem dX3_dueBehindPart_139 : decode cX3_dueBehindPart 139 = .ok (.goto 4, 3) := by decide +kernel
theorem dX3_dueBehindPart_142 : decode cX3_dueBehindPart 142 = .ok (.iconst (-1), 1) := by decide +kernel
theorem dX3_dueBehindPart_143 : decode cX3_dueBehindPart 143 = .ok (.ireturn, 1) := by decide +kernel
theorem dX3_dueBehindPart_144 : decode cX3_dueBehindPart 144 = .ok (.aload_n 0, 1) := by decide +kernel
theorem dX3_dueBehindPart_145 : decode cX3_dueBehindPart 145 = .ok (.getfield 9, 3) := by decide +kernel
theorem dX3_dueBehindPart_148 : decode cX3_dueBehindPart 148 = .ok (.ifCond .ne 7, 3) := by decide +kernel
theorem dX3_dueBehindPart_151 : decode cX3_dueBehindPart 151 = .ok (.iconst 4, 1) := by decide +kernel
theorem dX3_dueBehindPart_152 : decode cX3_dueBehindPart 152 = .ok (.goto 4, 3) := by decide +kernel
theorem dX3_dueBehindPart_155 : decode cX3_dueBehindPart 155 = .ok (.iconst (-1), 1) := by decide +kernel
theorem dX3_dueBehindPart_156 : decode cX3_dueBehindPart 156 = .ok (.ireturn, 1) := by decide +kernel
theorem dX3_dueBehindPart_157 : decode cX3_dueBehindPart 157 = .ok (.aload_n 0, 1) := by decide +kernel
theorem dX3_dueBehindPart_158 : decode cX3_dueBehindPart 158 = .ok (.getfield 9, 3) := by decide +kernel
theorem dX3_dueBehindPart_161 : decode cX3_dueBehindPart 161 = .ok (.ifCond .ne 10, 3) := by decide +kernel
theorem dX3_dueBehindPart_164 : decode cX3_dueBehindPart 164 = .ok (.aload_n 0, 1) := by decide +kernel
theorem dX3_dueBehindPart_165 : decode cX3_dueBehindPart 165 = .ok (.invokevirtual 54, 3) := by decide +kernel
theorem dX3_dueBehindPart_168 : decode cX3_dueBehindPart 168 = .ok (.goto 4, 3) := by decide +kernel
theorem dX3_dueBehindPart_171 : decode cX3_dueBehindPart 171 = .ok (.iconst (-1), 1) := by decide +kernel
theorem dX3_dueBehindPart_172 : decode cX3_dueBehindPart 172 = .ok (.ireturn, 1) := by decide +kernel
theorem dX3_dueBehindPart_173 : decode cX3_dueBehindPart 173 = .ok (.iconst (-1), 1) := by decide +kernel
theorem dX3_dueBehindPart_174 : decode cX3_dueBehindPart 174 = .ok (.ireturn, 1) := by decide +kernel
theorem dX3_dueInNextRule_0 : decode cX3_dueInNextRule 0 = .ok (.aload_n 0, 1) := by decide +kernel
theorem dX3_dueInNextRule_1 : decode cX3_dueInNextRule 1 = .ok (.dup, 1) := by decide +kernel
theorem dX3_dueInNextRule_2 : decode cX3_dueInNextRule 2 = .ok (.getfield 15, 3) := by decide +kernel
theorem dX3_dueInNextRule_5 : decode cX3_dueInNextRule 5 = .ok (.iconst 1, 1) := by decide +kernel
theorem dX3_dueInNextRule_6 : decode cX3_dueInNextRule 6 = .ok (.iadd, 1) := by decide +kernel
theorem dX3_dueInNextRule_7 : decode cX3_dueInNextRule 7 = .ok (.putfield 15, 3) := by decide +kernel
theorem dX3_dueInNextRule_10 : decode cX3_dueInNextRule 10 = .ok (.aload_n 0, 1) := by decide +kernel
theorem dX3_dueInNextRule_11 : decode cX3_dueInNextRule 11 = .ok (.getfield 15, 3) := by decide +kernel
theorem dX3_dueInNextRule_14 : decode cX3_dueInNextRule 14 = .ok (.bipush 8, 2) := by decide +kernel
theorem dX3_dueInNextRule_16 : decode cX3_dueInNextRule 16 = .ok (.if_icmp .ge 7, 3) := by decide +kernel
theorem dX3_dueInNextRule_19 : decode cX3_dueInNextRule 19 = .ok (.iconst 0, 1) := by decide +kernel
theorem dX3_dueInNextRule_20 : decode cX3_dueInNextRule 20 = .ok (.goto 4, 3) := by decide +kernel
theorem dX3_dueInNextRule_23 : decode cX3_dueInNextRule 23 = .ok (.iconst (-1), 1) := by decide +kernel
theorem dX3_dueInNextRule_24 : decode cX3_dueInNextRule 24 = .ok (.ireturn, 1) := by decide +kernel
theorem dX3_lettersOfMode_0 : decode cX3_lettersOfMode 0 = .ok (.iconst 0, 1) := by decide +kernel
theorem dX3_lettersOfMode_1 : decode cX3_lettersOfMode 1 = .ok (.istore_n 2, 1) := by decide +kernel
theorem dX3_lettersOfMode_2 : decode cX3_lettersOfMode 2 = .ok (.iconst (-1), 1) := by decide +kernel
theorem dX3_lettersOfMode_3 : decode cX3_lettersOfMode 3 = .ok (.istore_n 3, 1) := by decide +kernel
theorem dX3_lettersOfMode_4 : decode cX3_lettersOfMode 4 = .ok (.iconst 0, 1) := by decide +kernel
theorem dX3_lettersOfMode_5 : decode cX3_lettersOfMode 5 = .ok (.istore 4, 2) := by decide +kernel
theorem dX3_lettersOfMode_7 : decode cX3_lettersOfMode 7 = .ok (.iload 4, 2) := by decide +kernel
theorem dX3_lettersOfMode_9 : decode cX3_lettersOfMode 9 = .ok (.aload_n 0, 1) := by decide +kernel
theorem dX3_lettersOfMode_10 : decode cX3_lettersOfMode 10 = .ok (.getfield 18, 3) := by decide +kernel
theorem dX3_lettersOfMode_13 : decode cX3_lettersOfMode 13 = .ok (.if_icmp .ge 60, 3) := by decide +kernel
theorem dX3_lettersOfMode_16 : decode cX3_lettersOfMode 16 = .ok (.aload_n 0, 1) := by decide +kernel
theorem dX3_lettersOfMode_17 : decode cX3_lettersOfMode 17 = .ok (.iload 4, 2) := by decide +kernel
theorem dX3_lettersOfMode_19 : decode cX3_lettersOfMode 19 = .ok (.invokevirtual 23, 3) := by decide +kernel
theorem dX3_lettersOfMode_22 : decode cX3_lettersOfMode 22 = .ok (.istore 5, 2) := by decide +kernel
theorem dX3_lettersOfMode_24 : decode cX3_lettersOfMode 24 = .ok (.iload 4, 2) := by decide +kernel
theorem dX3_lettersOfMode_26 : decode cX3_lettersOfMode 26 = .ok (.ifCond .eq 16, 3) := by decide +kernel
theorem dX3_lettersOfMode_29 : decode cX3_lettersOfMode 29 = .ok (.aload_n 0, 1) := by decide +kernel
theorem dX3_lettersOfMode_30 : decode cX3_lettersOfMode 30 = .ok (.iload 4, 2) := by decide +kernel
theorem dX3_lettersOfMode_32 : decode cX3_lettersOfMode 32 = .ok (.iconst 1, 1) := by decide +kernel
theorem dX3_lettersOfMode_33 : decode cX3_lettersOfMode 33 = .ok (.isub, 1) := by decide +kernel
theorem dX3_lettersOfMode_34 : decode cX3_lettersOfMode 34 = .ok (.invokevirtual 23, 3) := by decide +kernel
theorem dX3_lettersOfMode_37 : decode cX3_lettersOfMode 37 = .ok (.bipush 59, 2) := by decide +kernel
theorem dX3_lettersOfMode_39 : decode cX3_lettersOfMode 39 = .ok (.if_icmp .ne 12, 3) := by decide +kernel
theorem dX3_lettersOfMode_42 : decode cX3_lettersOfMode 42 = .ok (.iload 5, 2) := by decide +kernel
theorem dX3_lettersOfMode_44 : decode cX3_lettersOfMode 44 = .ok (.bipush 48, 2) := by decide +kernel
theorem dX3_lettersOfMode_46 : decode cX3_lettersOfMode 46 = .ok (.isub, 1) := by decide +kernel
theorem dX3_lettersOfMode_47 : decode cX3_lettersOfMode 47 = .ok (.istore_n 3, 1) := by decide +kernel
theorem dX3_lettersOfMode_48 : decode cX3_lettersOfMode 48 = .ok (.goto 19, 3) := by decide +kernel
theorem dX3_lettersOfMode_51 : decode cX3_lettersOfMode 51 = .ok (.iload_n 3, 1) := by decide +kernel
theorem dX3_lettersOfMode_52 : decode cX3_lettersOfMode 52 = .ok (.iload_n 1, 1) := by decide +kernel
theorem dX3_lettersOfMode_53 : decode cX3_lettersOfMode 53 = .ok (.if_icmp .ne 14, 3) := by decide +kernel
theorem dX3_lettersOfMode_56 : decode cX3_lettersOfMode 56 = .ok (.iload 5, 2) := by decide +kernel
theorem dX3_lettersOfMode_58 : decode cX3_lettersOfMode 58 = .ok (.invokestatic 58, 3) := by decide +kernel
theorem dX3_lettersOfMode_61 : decode cX3_lettersOfMode 61 = .ok (.ifCond .eq 6, 3) := by decide +kernel
theorem dX3_lettersOfMode_64 : decode cX3_lettersOfMode 64 = .ok (.iinc 2 1, 3) := by decide +kernel
theorem dX3_lettersOfMode_67 : decode cX3_lettersOfMode 67 = .ok (.iinc 4 1, 3) := by decide +kernel
theorem dX3_lettersOfMode_70 : decode cX3_lettersOfMode 70 = .ok (.goto (-63), 3) := by decide +kernel
theorem dX3_lettersOfMode_73 : decode cX3_lettersOfMode 73 = .ok (.iload_n 2, 1) := by decide +kernel
theorem dX3_lettersOfMode_74 : decode cX3_lettersOfMode 74 = .ok (.ireturn, 1) := by decide +kernel
theorem dX4_init_0 : decode cX4_init 0 = .ok (.aload_n 0, 1) := by decide +kernel
theorem dX4_init_1 : decode cX4_init 1 = .ok (.invokespecial 3, 3) := by decide +kernel
theorem dX4_init_4 : decode cX4_init 4 = .ok (.aload_n 0, 1) := by decide +kernel
theorem dX4_init_5 : decode cX4_init 5 = .ok (.bipush 10, 2) := by decide +kernel
theorem dX4_init_7 : decode cX4_init 7 = .ok (.anewarray 9, 3) := by decide +kernel
theorem dX4_init_10 : decode cX4_init 10 = .ok (.putfield 11, 3) := by decide +kernel
theorem dX4_init_13 : decode cX4_init 13 = .ok (.aload_n 0, 1) := by decide +kernel
theorem dX4_init_14 : decode cX4_init 14 = .ok (.iconst 0, 1) := by decide +kernel
theorem dX4_init_15 : decode cX4_init 15 = .ok (.putfield 17, 3) := by decide +kernel
theorem dX4_init_18 : decode cX4_init 18 = .ok (.aload_n 0, 1) := by decide +kernel
theorem dX4_init_19 : decode cX4_init 19 = .ok (.iconst 0, 1) := by decide +kernel
theorem dX4_init_20 : decode cX4_init 20 = .ok (.putfield 21, 3) := by decide +kernel
theorem dX4_init_23 : decode cX4_init 23 = .ok (.return_, 1) := by decide +kernel
theorem dX4_push_0 : decode cX4_push 0 = .ok (.aload_n 0, 1) := by decide +kernel
theorem dX4_push_1 : decode cX4_push 1 = .ok (.aload_n 0, 1) := by decide +kernel
theorem dX4_push_2 : decode cX4_push 2 = .ok (.getfield 21, 3) := by decide +kernel
theorem dX4_push_5 : decode cX4_push 5 = .ok (.bipush 10, 2) := by decide +kernel
theorem dX4_push_7 : decode cX4_push 7 = .ok (.if_icmp .ge 10, 3) := by decide +kernel
theorem dX4_push_10 : decode cX4_push 10 = .ok (.aload_n 0, 1) := by decide +kernel
theorem dX4_push_11 : decode cX4_push 11 = .ok (.getfield 21, 3) := by decide +kernel
theorem dX4_push_14 : decode cX4_push 14 = .ok (.goto 4, 3) := by decide +kernel
theorem dX4_push_17 : decode cX4_push 17 = .ok (.iconst 0, 1) := by decide +kernel
theorem dX4_push_18 : decode cX4_push 18 = .ok (.invokevirtual 24, 3) := by decide +kernel
theorem dX4_push_21 : decode cX4_push 21 = .ok (.astore_n 2, 1) := by decide +kernel
theorem dX4_push_22 : decode cX4_push 22 = .ok (.aload_n 2, 1) := by decide +kernel
theorem dX4_push_23 : decode cX4_push 23 = .ok (.aload_n 1, 1) := by decide +kernel
theorem dX4_push_24 : decode cX4_push 24 = .ok (.invokevirtual 28, 3) := by decide +kernel
theorem dX4_push_27 : decode cX4_push 27 = .ok (.aload_n 0, 1) := by decide +kernel
theorem dX4_push_28 : decode cX4_push 28 = .ok (.getfield 21, 3) := by decide +kernel
theorem dX4_push_31 : decode cX4_push 31 = .ok (.bipush 10, 2) := by decide +kernel
theorem dX4_push_33 : decode cX4_push 33 = .ok (.if_icmp .ge 16, 3) := by decide +kernel
theorem dX4_push_36 : decode cX4_push 36 = .ok (.aload_n 0, 1) := by decide +kernel
theorem dX4_push_37 : decode cX4_push 37 = .ok (.dup, 1) := by decide +kernel
theorem dX4_push_38 : decode cX4_push 38 = .ok (.getfield 21, 3) := by decide +kernel
theorem dX4_push_41 : decode cX4_push 41 = .ok (.iconst 1, 1) := by decide +kernel
theorem dX4_push_42 : decode cX4_push 42 = .ok (.iadd, 1) := by decide +kernel
theorem dX4_push_43 : decode cX4_push 43 = .ok (.putfield 21, 3) := by decide +kernel
theorem dX4_push_46 : decode cX4_push 46 = .ok (.goto 16, 3) := by decide +kernel
theorem dX4_push_49 : decode cX4_push 49 = .ok (.aload_n 0, 1) := by decide +kernel
theorem dX4_push_50 : decode cX4_push 50 = .ok (.aload_n 0, 1) := by decide +kernel
theorem dX4_push_51 : decode cX4_push 51 = .ok (.getfield 17, 3) := by decide +kernel
theorem dX4_push_54 : decode cX4_push 54 = .ok (.iconst 1, 1) := by decide +kernel
theorem dX4_push_55 : decode cX4_push 55 = .ok (.iadd, 1) := by decide +kernel
theorem dX4_push_56 : decode cX4_push 56 = .ok (.bipush 10, 2) := by decide +kernel
theorem dX4_push_58 : decode cX4_push 58 = .ok (.irem, 1) := by decide +kernel
theorem dX4_push_59 : decode cX4_push 59 = .ok (.putfield 17, 3) := by decide +kernel
theorem dX4_push_62 : decode cX4_push 62 = .ok (.return_, 1) := by decide +kernel
theorem dX4_pop_0 : decode cX4_pop 0 = .ok (.aload_n 0, 1) := by decide +kernel
theorem dX4_pop_1 : decode cX4_pop 1 = .ok (.getfield 21, 3) := by decide +kernel
theorem dX4_pop_4 : decode cX4_pop 4 = .ok (.ifCond .gt 5, 3) := by decide +kernel
theorem dX4_pop_7 : decode cX4_pop 7 = .ok (.iconst 0, 1) := by decide +kernel
theorem dX4_pop_8 : decode cX4_pop 8 = .ok (.ireturn, 1) := by decide +kernel
theorem dX4_pop_9 : decode cX4_pop 9 = .ok (.aload_n 0, 1) := by decide +kernel
theorem dX4_pop_10 : decode cX4_pop 10 = .ok (.dup, 1) := by decide +kernel
theorem dX4_pop_11 : decode cX4_pop 11 = .ok (.getfield 21, 3) := by decide +kernel
theorem dX4_pop_14 : decode cX4_pop 14 = .ok (.iconst 1, 1) := by decide +kernel
theorem dX4_pop_15 : decode cX4_pop 15 = .ok (.isub, 1) := by decide +kernel
theorem dX4_pop_16 : decode cX4_pop 16 = .ok (.putfield 21, 3) := by decide +kernel
theorem dX4_pop_19 : decode cX4_pop 19 = .ok (.aload_n 1, 1) := by decide +kernel
theorem dX4_pop_20 : decode cX4_pop 20 = .ok (.aload_n 0, 1) := by decide +kernel
theorem dX4_pop_21 : decode cX4_pop 21 = .ok (.aload_n 0, 1) := by decide +kernel
theorem dX4_pop_22 : decode cX4_pop 22 = .ok (.getfield 21, 3) := by decide +kernel
theorem dX4_pop_25 : decode cX4_pop 25 = .ok (.invokevirtual 24, 3) := by decide +kernel
theorem dX4_pop_28 : decode cX4_pop 28 = .ok (.invokevirtual 28, 3) := by decide +kernel
theorem dX4_pop_31 : decode cX4_pop 31 = .ok (.iconst 1, 1) := by decide +kernel
theorem dX4_pop_32 : decode cX4_pop 32 = .ok (.ireturn, 1) := by decide +kernel
theorem dX4_forget_0 : decode cX4_forget 0 = .ok (.aload_n 0, 1) := by decide +kernel
theorem dX4_forget_1 : decode cX4_forget 1 = .ok (.iconst 0, 1) := by decide +kernel
theorem dX4_forget_2 : decode cX4_forget 2 = .ok (.putfield 21, 3) := by decide +kernel
theorem dX4_forget_5 : decode cX4_forget 5 = .ok (.return_, 1) := by decide +kernel
theorem dX4_slotAt_0 : decode cX4_slotAt 0 = .ok (.aload_n 0, 1) := by decide +kernel
theorem dX4_slotAt_1 : decode cX4_slotAt 1 = .ok (.getfield 17, 3) := by decide +kernel
theorem dX4_slotAt_4 : decode cX4_slotAt 4 = .ok (.iload_n 1, 1) := by decide +kernel
theorem dX4_slotAt_5 : decode cX4_slotAt 5 = .ok (.iadd, 1) := by decide +kernel
theorem dX4_slotAt_6 : decode cX4_slotAt 6 = .ok (.bipush 10, 2) := by decide +kernel
theorem dX4_slotAt_8 : decode cX4_slotAt 8 = .ok (.invokestatic 32, 3) := by decide +kernel
theorem dX4_slotAt_11 : decode cX4_slotAt 11 = .ok (.istore_n 2, 1) := by decide +kernel
theorem dX4_slotAt_12 : decode cX4_slotAt 12 = .ok (.aload_n 0, 1) := by decide +kernel
theorem dX4_slotAt_13 : decode cX4_slotAt 13 = .ok (.getfield 11, 3) := by decide +kernel
theorem dX4_slotAt_16 : decode cX4_slotAt 16 = .ok (.iload_n 2, 1) := by decide +kernel
theorem dX4_slotAt_17 : decode cX4_slotAt 17 = .ok (.aaload, 1) := by decide +kernel
theorem dX4_slotAt_18 : decode cX4_slotAt 18 = .ok (.ifnonnull 16, 3) := by decide +kernel
theorem dX4_slotAt_21 : decode cX4_slotAt 21 = .ok (.aload_n 0, 1) := by decide +kernel
theorem dX4_slotAt_22 : decode cX4_slotAt 22 = .ok (.getfield 11, 3) := by decide +kernel
theorem dX4_slotAt_25 : decode cX4_slotAt 25 = .ok (.iload_n 2, 1) := by decide +kernel
theorem dX4_slotAt_26 : decode cX4_slotAt 26 = .ok (.new 9, 3) := by decide +kernel
theorem dX4_slotAt_29 : decode cX4_slotAt 29 = .ok (.dup, 1) := by decide +kernel
theorem dX4_slotAt_30 : decode cX4_slotAt 30 = .ok (.invokespecial 38, 3) := by decide +kernel
theorem dX4_slotAt_33 : decode cX4_slotAt 33 = .ok (.aastore, 1) := by decide +kernel
theorem dX4_slotAt_34 : decode cX4_slotAt 34 = .ok (.aload_n 0, 1) := by decide +kernel
theorem dX4_slotAt_35 : decode cX4_slotAt 35 = .ok (.getfield 11, 3) := by decide +kernel
theorem dX4_slotAt_38 : decode cX4_slotAt 38 = .ok (.iload_n 2, 1) := by decide +kernel
theorem dX4_slotAt_39 : decode cX4_slotAt 39 = .ok (.aaload, 1) := by decide +kernel
theorem dX4_slotAt_40 : decode cX4_slotAt 40 = .ok (.areturn, 1) := by decide +kernel
theorem dX5_init_0 : decode cX5_init 0 = .ok (.aload_n 0, 1) := by decide +kernel
theorem dX5_init_1 : decode cX5_init 1 = .ok (.invokespecial 3, 3) := by decide +kernel
theorem dX5_init_4 : decode cX5_init 4 = .ok (.aload_n 0, 1) := by decide +kernel
theorem dX5_init_5 : decode cX5_init 5 = .ok (.bipush 24, 2) := by decide +kernel
theorem dX5_init_7 : decode cX5_init 7 = .ok (.newarray .int, 2) := by decide +kernel
theorem dX5_init_9 : decode cX5_init 9 = .ok (.putfield 9, 3) := by decide +kernel
theorem dX5_init_12 : decode cX5_init 12 = .ok (.aload_n 0, 1) := by decide +kernel
theorem dX5_init_13 : decode cX5_init 13 = .ok (.iconst 0, 1) := by decide +kernel
theorem dX5_init_14 : decode cX5_init 14 = .ok (.putfield 15, 3) := by decide +kernel
theorem dX5_init_17 : decode cX5_init 17 = .ok (.return_, 1) := by decide +kernel
theorem dX5_has_0 : decode cX5_has 0 = .ok (.iload_n 1, 1) := by decide +kernel
theorem dX5_has_1 : decode cX5_has 1 = .ok (.ifCond .lt 15, 3) := by decide +kernel
theorem dX5_has_4 : decode cX5_has 4 = .ok (.iload_n 1, 1) := by decide +kernel
theorem dX5_has_5 : decode cX5_has 5 = .ok (.aload_n 0, 1) := by decide +kernel
theorem dX5_has_6 : decode cX5_has 6 = .ok (.getfield 15, 3) := by decide +kernel
theorem dX5_has_9 : decode cX5_has 9 = .ok (.if_icmp .ge 7, 3) := by decide +kernel
theorem dX5_has_12 : decode cX5_has 12 = .ok (.iconst 1, 1) := by decide +kernel
theorem dX5_has_13 : decode cX5_has 13 = .ok (.goto 4, 3) := by decide +kernel
theorem dX5_has_16 : decode cX5_has 16 = .ok (.iconst 0, 1) := by decide +kernel
theorem dX5_has_17 : decode cX5_has 17 = .ok (.ireturn, 1) := by decide +kernel
theorem dX5_get_0 : decode cX5_get 0 = .ok (.iload_n 1, 1) := by decide +kernel
theorem dX5_get_1 : decode cX5_get 1 = .ok (.ifCond .lt 26, 3) := by decide +kernel
theorem dX5_get_4 : decode cX5_get 4 = .ok (.iload_n 1, 1) := by decide +kernel
theorem dX5_get_5 : decode cX5_get 5 = .ok (.aload_n 0, 1) := by decide +kernel
theorem dX5_get_6 : decode cX5_get 6 = .ok (.getfield 15, 3) := by decide +kernel
theorem dX5_get_9 : decode cX5_get 9 = .ok (.if_icmp .ge 18, 3) := by decide +kernel
theorem dX5_get_12 : decode cX5_get 12 = .ok (.iload_n 1, 1) := by decide +kernel
theorem dX5_get_13 : decode cX5_get 13 = .ok (.bipush 24, 2) := by decide +kernel
theorem dX5_get_15 : decode cX5_get 15 = .ok (.if_icmp .ge 12, 3) := by decide +kernel
theorem dX5_get_18 : decode cX5_get 18 = .ok (.aload_n 0, 1) := by decide +kernel
theorem dX5_get_19 : decode cX5_get 19 = .ok (.getfield 9, 3) := by decide +kernel
theorem dX5_get_22 : decode cX5_get 22 = .ok (.iload_n 1, 1) := by decide +kernel
theorem dX5_get_23 : decode cX5_get 23 = .ok (.iaload, 1) := by decide +kernel
theorem dX5_get_24 : decode cX5_get 24 = .ok (.goto 4, 3) := by decide +kernel
theorem dX5_get_27 : decode cX5_get 27 = .ok (.iconst (-1), 1) := by decide +kernel
theorem dX5_get_28 : decode cX5_get 28 = .ok (.ireturn, 1) := by decide +kernel
theorem dX5_copy_0 : decode cX5_copy 0 = .ok (.aload_n 1, 1) := by decide +kernel
theorem dX5_copy_1 : decode cX5_copy 1 = .ok (.getfield 9, 3) := by decide +kernel
theorem dX5_copy_4 : decode cX5_copy 4 = .ok (.iconst 0, 1) := by decide +kernel
theorem dX5_copy_5 : decode cX5_copy 5 = .ok (.aload_n 0, 1) := by decide +kernel
theorem dX5_copy_6 : decode cX5_copy 6 = .ok (.getfield 9, 3) := by decide +kernel
theorem dX5_copy_9 : decode cX5_copy 9 = .ok (.iconst 0, 1) := by decide +kernel
theorem dX5_copy_10 : decode cX5_copy 10 = .ok (.bipush 24, 2) := by decide +kernel
theorem dX5_copy_12 : decode cX5_copy 12 = .ok (.invokestatic 19, 3) := by decide +kernel
theorem dX5_copy_15 : decode cX5_copy 15 = .ok (.aload_n 0, 1) := by decide +kernel
theorem dX5_copy_16 : decode cX5_copy 16 = .ok (.aload_n 1, 1) := by decide +kernel
theorem dX5_copy_17 : decode cX5_copy 17 = .ok (.getfield 15, 3) := by decide +kernel
theorem dX5_copy_20 : decode cX5_copy 20 = .ok (.putfield 15, 3) := by decide +kernel
theorem dX5_copy_23 : decode cX5_copy 23 = .ok (.return_, 1) := by decide +kernel
theorem dX5_take_0 : decode cX5_take 0 = .ok (.aload_n 0, 1) := by decide +kernel
theorem dX5_take_1 : decode cX5_take 1 = .ok (.iconst 0, 1) := by decide +kernel
theorem dX5_take_2 : decode cX5_take 2 = .ok (.putfield 15, 3) := by decide +kernel
theorem dX5_take_5 : decode cX5_take 5 = .ok (.iconst 0, 1) := by decide +kernel
theorem dX5_take_6 : decode cX5_take 6 = .ok (.istore_n 2, 1) := by decide +kernel
theorem dX5_take_7 : decode cX5_take 7 = .ok (.iload_n 2, 1) := by decide +kernel
theorem dX5_take_8 : decode cX5_take 8 = .ok (.aload_n 1, 1) := by decide +kernel
theorem dX5_take_9 : decode cX5_take 9 = .ok (.getfield 25, 3) := by decide +kernel
theorem dX5_take_12 : decode cX5_take 12 = .ok (.if_icmp .ge 22, 3) := by decide +kernel
theorem dX5_take_15 : decode cX5_take 15 = .ok (.aload_n 0, 1) := by decide +kernel
theorem dX5_take_16 : decode cX5_take 16 = .ok (.iload_n 2, 1) := by decide +kernel
theorem dX5_take_17 : decode cX5_take 17 = .ok (.aload_n 1, 1) := by decide +kernel
theorem dX5_take_18 : decode cX5_take 18 = .ok (.iload_n 2, 1) := by decide +kernel
theorem dX5_take_19 : decode cX5_take 19 = .ok (.invokevirtual 28, 3) := by decide +kernel
theorem dX5_take_22 : decode cX5_take 22 = .ok (.bipush 97, 2) := by decide +kernel
theorem dX5_take_24 : decode cX5_take 24 = .ok (.isub, 1) := by decide +kernel
theorem dX5_take_25 : decode cX5_take 25 = .ok (.invokevirtual 32, 3) := by decide +kernel
theorem dX5_take_28 : decode cX5_take 28 = .ok (.iinc 2 1, 3) := by decide +kernel
theorem dX5_take_31 : decode cX5_take 31 = .ok (.goto (-24), 3) := by decide +kernel
theorem dX5_take_34 : decode cX5_take 34 = .ok (.return_, 1) := by decide +kernel
theorem dX5_refusal_0 : decode cX5_refusal 0 = .ok (.aload_n 0, 1) := by decide +kernel
theorem dX5_refusal_1 : decode cX5_refusal 1 = .ok (.iload_n 2, 1) := by decide +kernel
theorem dX5_refusal_2 : decode cX5_refusal 2 = .ok (.invokevirtual 36, 3) := by decide +kernel
theorem dX5_refusal_5 : decode cX5_refusal 5 = .ok (.ifCond .ne 16, 3) := by decide +kernel
theorem dX5_refusal_8 : decode cX5_refusal 8 = .ok (.iload_n 1, 1) := by decide +kernel
theorem dX5_refusal_9 : decode cX5_refusal 9 = .ok (.iconst 1, 1) := by decide +kernel
theorem dX5_refusal_10 : decode cX5_refusal 10 = .ok (.if_icmp .ne 15, 3) := by decide +kernel
theorem dX5_refusal_13 : decode cX5_refusal 13 = .ok (.iload_n 2, 1) := by decide +kernel
theorem dX5_refusal_14 : decode cX5_refusal 14 = .ok (.aload_n 0, 1) := by decide +kernel
theorem dX5_refusal_15 : decode cX5_refusal 15 = .ok (.getfield 15, 3) := by decide +kernel
theorem dX5_refusal_18 : decode cX5_refusal 18 = .ok (.if_icmp .ne 7, 3) := by decide +kernel
theorem dX5_refusal_21 : decode cX5_refusal 21 = .ok (.iconst 1, 1) := by decide +kernel
theorem dX5_refusal_22 : decode cX5_refusal 22 = .ok (.goto 4, 3) := by decide +kernel
theorem dX5_refusal_25 : decode cX5_refusal 25 = .ok (.iconst 0, 1) := by decide +kernel
theorem dX5_refusal_26 : decode cX5_refusal 26 = .ok (.istore 4, 2) := by decide +kernel
theorem dX5_refusal_28 : decode cX5_refusal 28 = .ok (.iload_n 3, 1) := by decide +kernel
theorem dX5_refusal_29 : decode cX5_refusal 29 = .ok (.ifCond .lt 13, 3) := by decide +kernel
theorem dX5_refusal_32 : decode cX5_refusal 32 = .ok (.iload_n 3, 1) := by decide +kernel
theorem dX5_refusal_33 : decode cX5_refusal 33 = .ok (.bipush 8, 2) := by decide +kernel
theorem dX5_refusal_35 : decode cX5_refusal 35 = .ok (.if_icmp .ge 7, 3) := by decide +kernel
theorem dX5_refusal_38 : decode cX5_refusal 38 = .ok (.iconst 1, 1) := by decide +kernel
theorem dX5_refusal_39 : decode cX5_refusal 39 = .ok (.goto 4, 3) := by decide +kernel
theorem dX5_refusal_42 : decode cX5_refusal 42 = .ok (.iconst 0, 1) := by decide +kernel
theorem dX5_refusal_43 : decode cX5_refusal 43 = .ok (.istore 5, 2) := by decide +kernel
theorem dX5_refusal_45 : decode cX5_refusal 45 = .ok (.iload 4, 2) := by decide +kernel
theorem dX5_refusal_47 : decode cX5_refusal 47 = .ok (.ifCond .eq 8, 3) := by decide +kernel
theorem dX5_refusal_50 : decode cX5_refusal 50 = .ok (.iload 5, 2) := by decide +kernel
theorem dX5_refusal_52 : decode cX5_refusal 52 = .ok (.ifCond .ne 5, 3) := by decide +kernel
theorem dX5_refusal_55 : decode cX5_refusal 55 = .ok (.iconst (-1), 1) := by decide +kernel
theorem dX5_refusal_56 : decode cX5_refusal 56 = .ok (.ireturn, 1) := by decide +kernel
theorem dX5_refusal_57 : decode cX5_refusal 57 = .ok (.iload_n 1, 1) := by decide +kernel
theorem dX5_refusal_58 : decode cX5_refusal 58 = .ok (.ifCond .ne 15, 3) := by decide +kernel
theorem dX5_refusal_61 : decode cX5_refusal 61 = .ok (.aload_n 0, 1) := by decide +kernel
theorem dX5_refusal_62 : decode cX5_refusal 62 = .ok (.iload_n 2, 1) := by decide +kernel
theorem dX5_refusal_63 : decode cX5_refusal 63 = .ok (.invokevirtual 40, 3) := by decide +kernel
theorem dX5_refusal_66 : decode cX5_refusal 66 = .ok (.iload_n 3, 1) := by decide +kernel
theorem dX5_refusal_67 : decode cX5_refusal 67 = .ok (.if_icmp .ne 6, 3) := by decide +kernel
theorem dX5_refusal_70 : decode cX5_refusal 70 = .ok (.bipush (-2), 2) := by decide +kernel
theorem dX5_refusal_72 : decode cX5_refusal 72 = .ok (.ireturn, 1) := by decide +kernel
theorem dX5_refusal_73 : decode cX5_refusal 73 = .ok (.iload_n 1, 1) := by decide +kernel
theorem dX5_refusal_74 : decode cX5_refusal 74 = .ok (.iconst 1, 1) := by decide +kernel
theorem dX5_refusal_75 : decode cX5_refusal 75 = .ok (.if_icmp .ne 17, 3) := by decide +kernel
theorem dX5_refusal_78 : decode cX5_refusal 78 = .ok (.aload_n 0, 1) := by decide +kernel
theorem dX5_refusal_79 : decode cX5_refusal 79 = .ok (.getfield 15, 3) := by decide +kernel
theorem dX5_refusal_82 : decode cX5_refusal 82 = .ok (.bipush 24, 2) := by decide +kernel
theorem dX5_refusal_84 : decode cX5_refusal 84 = .ok (.if_icmp .lt 8, 3) := by decide +kernel
theorem dX5_refusal_87 : decode cX5_refusal 87 = .ok (.bipush (-3), 2) := by decide +kernel
theorem dX5_refusal_89 : decode cX5_refusal 89 = .ok (.goto 4, 3) := by decide +kernel
theorem dX5_refusal_92 : decode cX5_refusal 92 = .ok (.iconst 0, 1) := by decide +kernel
theorem dX5_refusal_93 : decode cX5_refusal 93 = .ok (.ireturn, 1) := by decide +kernel
theorem dX5_change_0 : decode cX5_change 0 = .ok (.aload_n 0, 1) := by decide +kernel
theorem dX5_change_1 : decode cX5_change 1 = .ok (.iload_n 1, 1) := by decide +kernel
theorem dX5_change_2 : decode cX5_change 2 = .ok (.iload_n 2, 1) := by decide +kernel
theorem dX5_change_3 : decode cX5_change 3 = .ok (.iload_n 3, 1) := by decide +kernel
theorem dX5_change_4 : decode cX5_change 4 = .ok (.invokevirtual 41, 3) := by decide +kernel
theorem dX5_change_7 : decode cX5_change 7 = .ok (.ifCond .ge 4, 3) := by decide +kernel
theorem dX5_change_10 : decode cX5_change 10 = .ok (.return_, 1) := by decide +kernel
theorem dX5_change_11 : decode cX5_change 11 = .ok (.iload_n 1, 1) := by decide +kernel
theorem dX5_change_12 : decode cX5_change 12 = .ok (.ifCond .ne 12, 3) := by decide +kernel
theorem dX5_change_15 : decode cX5_change 15 = .ok (.aload_n 0, 1) := by decide +kernel
theorem dX5_change_16 : decode cX5_change 16 = .ok (.iload_n 2, 1) := by decide +kernel
theorem dX5_change_17 : decode cX5_change 17 = .ok (.iload_n 3, 1) := by decide +kernel
theorem dX5_change_18 : decode cX5_change 18 = .ok (.invokevirtual 45, 3) := by decide +kernel
theorem dX5_change_21 : decode cX5_change 21 = .ok (.goto 22, 3) := by decide +kernel
theorem dX5_change_24 : decode cX5_change 24 = .ok (.iload_n 1, 1) := by decide +kernel
theorem dX5_change_25 : decode cX5_change 25 = .ok (.iconst 1, 1) := by decide +kernel
theorem dX5_change_26 : decode cX5_change 26 = .ok (.if_icmp .ne 12, 3) := by decide +kernel
theorem dX5_change_29 : decode cX5_change 29 = .ok (.aload_n 0, 1) := by decide +kernel
theorem dX5_change_30 : decode cX5_change 30 = .ok (.iload_n 2, 1) := by decide +kernel
theorem dX5_change_31 : decode cX5_change 31 = .ok (.iload_n 3, 1) := by decide +kernel
theorem dX5_change_32 : decode cX5_change 32 = .ok (.invokevirtual 32, 3) := by decide +kernel
theorem dX5_change_35 : decode cX5_change 35 = .ok (.goto 8, 3) := by decide +kernel
theorem dX5_change_38 : decode cX5_change 38 = .ok (.aload_n 0, 1) := by decide +kernel
theorem dX5_change_39 : decode cX5_change 39 = .ok (.iload_n 2, 1) := by decide +kernel
theorem dX5_change_40 : decode cX5_change 40 = .ok (.invokevirtual 48, 3) := by decide +kernel
theorem dX5_change_43 : decode cX5_change 43 = .ok (.return_, 1) := by decide +kernel
theorem dX5_put_0 : decode cX5_put 0 = .ok (.iload_n 1, 1) := by decide +kernel
theorem dX5_put_1 : decode cX5_put 1 = .ok (.ifCond .lt 24, 3) := by decide +kernel
theorem dX5_put_4 : decode cX5_put 4 = .ok (.iload_n 1, 1) := by decide +kernel
theorem dX5_put_5 : decode cX5_put 5 = .ok (.aload_n 0, 1) := by decide +kernel
theorem dX5_put_6 : decode cX5_put 6 = .ok (.getfield 15, 3) := by decide +kernel
theorem dX5_put_9 : decode cX5_put 9 = .ok (.if_icmp .ge 16, 3) := by decide +kernel
theorem dX5_put_12 : decode cX5_put 12 = .ok (.iload_n 1, 1) := by decide +kernel
theorem dX5_put_13 : decode cX5_put 13 = .ok (.bipush 24, 2) := by decide +kernel
theorem dX5_put_15 : decode cX5_put 15 = .ok (.if_icmp .ge 10, 3) := by decide +kernel
theorem dX5_put_18 : decode cX5_put 18 = .ok (.aload_n 0, 1) := by decide +kernel
theorem dX5_put_19 : decode cX5_put 19 = .ok (.getfield 9, 3) := by decide +kernel
theorem dX5_put_22 : decode cX5_put 22 = .ok (.iload_n 1, 1) := by decide +kernel
theorem dX5_put_23 : decode cX5_put 23 = .ok (.iload_n 2, 1) := by decide +kernel
theorem dX5_put_24 : decode cX5_put 24 = .ok (.iastore, 1) := by decide +kernel
theorem dX5_put_25 : decode cX5_put 25 = .ok (.return_, 1) := by decide +kernel
theorem dX5_insert_0 : decode cX5_insert 0 = .ok (.iload_n 1, 1) := by decide +kernel
theorem dX5_insert_1 : decode cX5_insert 1 = .ok (.ifCond .lt 20, 3) := by decide +kernel
theorem dX5_insert_4 : decode cX5_insert 4 = .ok (.iload_n 1, 1) := by decide +kernel
theorem dX5_insert_5 : decode cX5_insert 5 = .ok (.aload_n 0, 1) := by decide +kernel
theorem dX5_insert_6 : decode cX5_insert 6 = .ok (.getfield 15, 3) := by decide +kernel
theorem dX5_insert_9 : decode cX5_insert 9 = .ok (.if_icmp .gt 12, 3) := by decide +kernel
theorem dX5_insert_12 : decode cX5_insert 12 = .ok (.aload_n 0, 1) := by decide +kernel
theorem dX5_insert_13 : decode cX5_insert 13 = .ok (.getfield 15, 3) := by decide +kernel
theorem dX5_insert_16 : decode cX5_insert 16 = .ok (.bipush 24, 2) := by decide +kernel
theorem dX5_insert_18 : decode cX5_insert 18 = .ok (.if_icmp .lt 4, 3) := by decide +kernel
theorem dX5_insert_21 : decode cX5_insert 21 = .ok (.return_, 1) := by decide +kernel
theorem dX5_insert_22 : decode cX5_insert 22 = .ok (.aload_n 0, 1) := by decide +kernel
theorem dX5_insert_23 : decode cX5_insert 23 = .ok (.getfield 15, 3) := by decide +kernel
theorem dX5_insert_26 : decode cX5_insert 26 = .ok (.istore_n 3, 1) := by decide +kernel
theorem dX5_insert_27 : decode cX5_insert 27 = .ok (.iload_n 3, 1) := by decide +kernel
theorem dX5_insert_28 : decode cX5_insert 28 = .ok (.iload_n 1, 1) := by decide +kernel
theorem dX5_insert_29 : decode cX5_insert 29 = .ok (.if_icmp .le 23, 3) := by decide +kernel
theorem dX5_insert_32 : decode cX5_insert 32 = .ok (.aload_n 0, 1) := by decide +kernel
theorem dX5_insert_33 : decode cX5_insert 33 = .ok (.getfield 9, 3) := by decide +kernel
theorem dX5_insert_36 : decode cX5_insert 36 = .ok (.iload_n 3, 1) := by decide +kernel
theorem dX5_insert_37 : decode cX5_insert 37 = .ok (.aload_n 0, 1) := by decide +kernel
theorem dX5_insert_38 : decode cX5_insert 38 = .ok (.getfield 9, 3) := by decide +kernel
theorem dX5_insert_41 : decode cX5_insert 41 = .ok (.iload_n 3, 1) := by decide +kernel
theorem dX5_insert_42 : decode cX5_insert 42 = .ok (.iconst 1, 1) := by decide +kernel
theorem dX5_insert_43 : decode cX5_insert 43 = .ok (.isub, 1) := by decide +kernel
theorem dX5_insert_44 : decode cX5_insert 44 = .ok (.iaload, 1) := by decide +kernel
theorem dX5_insert_45 : decode cX5_insert 45 = .ok (.iastore, 1) := by decide +kernel
theorem dX5_insert_46 : decode cX5_insert 46 = .ok (.iinc 3 (-1), 3) := by decide +kernel
theorem dX5_insert_49 : decode cX5_insert 49 = .ok (.goto (-22), 3) := by decide +kernel
theorem dX5_insert_52 : decode cX5_insert 52 = .ok (.aload_n 0, 1) := by decide +kernel
theorem dX5_insert_53 : decode cX5_insert 53 = .ok (.getfield 9, 3) := by decide +kernel
theorem dX5_insert_56 : decode cX5_insert 56 = .ok (.iload_n 1, 1) := by decide +kernel
theorem dX5_insert_57 : decode cX5_insert 57 = .ok (.iload_n 2, 1) := by decide +kernel
theorem dX5_insert_58 : decode cX5_insert 58 = .ok (.iastore, 1) := by decide +kernel
theorem dX5_insert_59 : decode cX5_insert 59 = .ok (.aload_n 0, 1) := by decide +kernel
theorem dX5_insert_60 : decode cX5_insert 60 = .ok (.dup, 1) := by decide +kernel
theorem dX5_insert_61 : decode cX5_insert 61 = .ok (.getfield 15, 3) := by decide +kernel
theorem dX5_insert_64 : decode cX5_insert 64 = .ok (.iconst 1, 1) := by decide +kernel
theorem dX5_insert_65 : decode cX5_insert 65 = .ok (.iadd, 1) := by decide +kernel
theorem dX5_insert_66 : decode cX5_insert 66 = .ok (.putfield 15, 3) := by decide +kernel
theorem dX5_insert_69 : decode cX5_insert 69 = .ok (.return_, 1) := by decide +kernel
theorem dX5_remove_0 : decode cX5_remove 0 = .ok (.iload_n 1, 1) := by decide +kernel
theorem dX5_remove_1 : decode cX5_remove 1 = .ok (.ifCond .lt 20, 3) := by decide +kernel
theorem dX5_remove_4 : decode cX5_remove 4 = .ok (.iload_n 1, 1) := by decide +kernel
theorem dX5_remove_5 : decode cX5_remove 5 = .ok (.aload_n 0, 1) := by decide +kernel
theorem dX5_remove_6 : decode cX5_remove 6 = .ok (.getfield 15, 3) := by decide +kernel
theorem dX5_remove_9 : decode cX5_remove 9 = .ok (.if_icmp .ge 12, 3) := by decide +kernel
theorem dX5_remove_12 : decode cX5_remove 12 = .ok (.aload_n 0, 1) := by decide +kernel
theorem dX5_remove_13 : decode cX5_remove 13 = .ok (.getfield 15, 3) := by decide +kernel
theorem dX5_remove_16 : decode cX5_remove 16 = .ok (.bipush 24, 2) := by decide +kernel
theorem dX5_remove_18 : decode cX5_remove 18 = .ok (.if_icmp .le 4, 3) := by decide +kernel
theorem dX5_remove_21 : decode cX5_remove 21 = .ok (.return_, 1) := by decide +kernel
theorem dX5_remove_22 : decode cX5_remove 22 = .ok (.iload_n 1, 1) := by decide +kernel
theorem dX5_remove_23 : decode cX5_remove 23 = .ok (.istore_n 2, 1) := by decide +kernel
theorem dX5_remove_24 : decode cX5_remove 24 = .ok (.iload_n 2, 1) := by decide +kernel
theorem dX5_remove_25 : decode cX5_remove 25 = .ok (.aload_n 0, 1) := by decide +kernel
theorem dX5_remove_26 : decode cX5_remove 26 = .ok (.getfield 15, 3) := by decide +kernel
theorem dX5_remove_29 : decode cX5_remove 29 = .ok (.iconst 1, 1) := by decide +kernel
theorem dX5_remove_30 : decode cX5_remove 30 = .ok (.isub, 1) := by decide +kernel
theorem dX5_remove_31 : decode cX5_remove 31 = .ok (.if_icmp .ge 23, 3) := by decide +kernel
theorem dX5_remove_34 : decode cX5_remove 34 = .ok (.aload_n 0, 1) := by decide +kernel
theorem dX5_remove_35 : decode cX5_remove 35 = .ok (.getfield 9, 3) := by decide +kernel
theorem dX5_remove_38 : decode cX5_remove 38 = .ok (.iload_n 2, 1) := by decide +kernel
theorem dX5_remove_39 : decode cX5_remove 39 = .ok (.aload_n 0, 1) := by decide +kernel
theorem dX5_remove_40 : decode cX5_remove 40 = .ok (.getfield 9, 3) := by decide +kernel
theorem dX5_remove_43 : decode cX5_remove 43 = .ok (.iload_n 2, 1) := by decide +kernel
theorem dX5_remove_44 : decode cX5_remove 44 = .ok (.iconst 1, 1) := by decide +kernel
theorem dX5_remove_45 : decode cX5_remove 45 = .ok (.iadd, 1) := by decide +kernel
theorem dX5_remove_46 : decode cX5_remove 46 = .ok (.iaload, 1) := by decide +kernel
theorem dX5_remove_47 : decode cX5_remove 47 = .ok (.iastore, 1) := by decide +kernel
theorem dX5_remove_48 : decode cX5_remove 48 = .ok (.iinc 2 1, 3) := by decide +kernel
theorem dX5_remove_51 : decode cX5_remove 51 = .ok (.goto (-27), 3) := by decide +kernel
theorem dX5_remove_54 : decode cX5_remove 54 = .ok (.aload_n 0, 1) := by decide +kernel
theorem dX5_remove_55 : decode cX5_remove 55 = .ok (.dup, 1) := by decide +kernel
theorem dX5_remove_56 : decode cX5_remove 56 = .ok (.getfield 15, 3) := by decide +kernel
theorem dX5_remove_59 : decode cX5_remove 59 = .ok (.iconst 1, 1) := by decide +kernel
theorem dX5_remove_60 : decode cX5_remove 60 = .ok (.isub, 1) := by decide +kernel
theorem dX5_remove_61 : decode cX5_remove 61 = .ok (.putfield 15, 3) := by decide +kernel
theorem dX5_remove_64 : decode cX5_remove 64 = .ok (.return_, 1) := by decide +kernel
theorem dX6_init_0 : decode cX6_init 0 = .ok (.aload_n 0, 1) := by decide +kernel
theorem dX6_init_1 : decode cX6_init 1 = .ok (.invokespecial 3, 3) := by decide +kernel
theorem dX6_init_4 : decode cX6_init 4 = .ok (.aload_n 0, 1) := by decide +kernel
theorem dX6_init_5 : decode cX6_init 5 = .ok (.bipush 25, 2) := by decide +kernel
theorem dX6_init_7 : decode cX6_init 7 = .ok (.bipush 24, 2) := by decide +kernel
theorem dX6_init_9 : decode cX6_init 9 = .ok (.multianewarray 9 2, 4) := by decide +kernel
theorem dX6_init_13 : decode cX6_init 13 = .ok (.putfield 11, 3) := by decide +kernel
theorem dX6_init_16 : decode cX6_init 16 = .ok (.aload_n 0, 1) := by decide +kernel
theorem dX6_init_17 : decode cX6_init 17 = .ok (.bipush 25, 2) := by decide +kernel
theorem dX6_init_19 : decode cX6_init 19 = .ok (.bipush 24, 2) := by decide +kernel
theorem dX6_init_21 : decode cX6_init 21 = .ok (.multianewarray 9 2, 4) := by decide +kernel
theorem dX6_init_25 : decode cX6_init 25 = .ok (.putfield 16, 3) := by decide +kernel
theorem dX6_init_28 : decode cX6_init 28 = .ok (.aload_n 0, 1) := by decide +kernel
theorem dX6_init_29 : decode cX6_init 29 = .ok (.bipush 25, 2) := by decide +kernel
theorem dX6_init_31 : decode cX6_init 31 = .ok (.newarray .int, 2) := by decide +kernel
theorem dX6_init_33 : decode cX6_init 33 = .ok (.putfield 19, 3) := by decide +kernel
theorem dX6_init_36 : decode cX6_init 36 = .ok (.aload_n 0, 1) := by decide +kernel
theorem dX6_init_37 : decode cX6_init 37 = .ok (.iconst 0, 1) := by decide +kernel
theorem dX6_init_38 : decode cX6_init 38 = .ok (.putfield 23, 3) := by decide +kernel
theorem dX6_init_41 : decode cX6_init 41 = .ok (.aload_n 0, 1) := by decide +kernel
theorem dX6_init_42 : decode cX6_init 42 = .ok (.iconst 0, 1) := by decide +kernel
theorem dX6_init_43 : decode cX6_init 43 = .ok (.putfield 27, 3) := by decide +kernel
theorem dX6_init_46 : decode cX6_init 46 = .ok (.return_, 1) := by decide +kernel
theorem dX6_walk_0 : decode cX6_walk 0 = .ok (.aload_n 0, 1) := by decide +kernel
theorem dX6_walk_1 : decode cX6_walk 1 = .ok (.invokevirtual 30, 3) := by decide +kernel
theorem dX6_walk_4 : decode cX6_walk 4 = .ok (.iconst 0, 1) := by decide +kernel
theorem dX6_walk_5 : decode cX6_walk 5 = .ok (.istore 4, 2) := by decide +kernel
theorem dX6_walk_7 : decode cX6_walk 7 = .ok (.iload 4, 2) := by decide +kernel
theorem dX6_walk_9 : decode cX6_walk 9 = .ok (.aload_n 3, 1) := by decide +kernel
theorem dX6_walk_10 : decode cX6_walk 10 = .ok (.getfield 33, 3) := by decide +kernel
theorem dX6_walk_13 : decode cX6_walk 13 = .ok (.if_icmp .ge 100, 3) := by decide +kernel
theorem dX6_walk_16 : decode cX6_walk 16 = .ok (.aload_n 3, 1) := by decide +kernel
theorem dX6_walk_17 : decode cX6_walk 17 = .ok (.getfield 38, 3) := by decide +kernel
theorem dX6_walk_20 : decode cX6_walk 20 = .ok (.iload 4, 2) := by decide +kernel
theorem dX6_walk_22 : decode cX6_walk 22 = .ok (.iaload, 1) := by decide +kernel
theorem dX6_walk_23 : decode cX6_walk 23 = .ok (.istore 5, 2) := by decide +kernel
theorem dX6_walk_25 : decode cX6_walk 25 = .ok (.aload_n 1, 1) := by decide +kernel
theorem dX6_walk_26 : decode cX6_walk 26 = .ok (.iload 5, 2) := by decide +kernel
theorem dX6_walk_28 : decode cX6_walk 28 = .ok (.invokevirtual 41, 3) := by decide +kernel
theorem dX6_walk_31 : decode cX6_walk 31 = .ok (.istore 6, 2) := by decide +kernel
theorem dX6_walk_33 : decode cX6_walk 33 = .ok (.aload_n 3, 1) := by decide +kernel
theorem dX6_walk_34 : decode cX6_walk 34 = .ok (.getfield 47, 3) := by decide +kernel
theorem dX6_walk_37 : decode cX6_walk 37 = .ok (.iload 4, 2) := by decide +kernel
theorem dX6_walk_39 : decode cX6_walk 39 = .ok (.iaload, 1) := by decide +kernel
theorem dX6_walk_40 : decode cX6_walk 40 = .ok (.istore 7, 2) := by decide +kernel
theorem dX6_walk_42 : decode cX6_walk 42 = .ok (.iload 7, 2) := by decide +kernel
theorem dX6_walk_44 : decode cX6_walk 44 = .ok (.aload_n 3, 1) := by decide +kernel
theorem dX6_walk_45 : decode cX6_walk 45 = .ok (.getfield 50, 3) := by decide +kernel
theorem dX6_walk_48 : decode cX6_walk 48 = .ok (.iload 4, 2) := by decide +kernel
theorem dX6_walk_50 : decode cX6_walk 50 = .ok (.iaload, 1) := by decide +kernel
theorem dX6_walk_51 : decode cX6_walk 51 = .ok (.if_icmp .ge 56, 3) := by decide +kernel
theorem dX6_walk_54 : decode cX6_walk 54 = .ok (.iload 6, 2) := by decide +kernel
theorem dX6_walk_56 : decode cX6_walk 56 = .ok (.aload_n 1, 1) := by decide +kernel
theorem dX6_walk_57 : decode cX6_walk 57 = .ok (.iload 5, 2) := by decide +kernel
theorem dX6_walk_59 : decode cX6_walk 59 = .ok (.aload_n 2, 1) := by decide +kernel
theorem dX6_walk_60 : decode cX6_walk 60 = .ok (.iload 7, 2) := by decide +kernel
theorem dX6_walk_62 : decode cX6_walk 62 = .ok (.invokevirtual 53, 3) := by decide +kernel
theorem dX6_walk_65 : decode cX6_walk 65 = .ok (.invokevirtual 58, 3) := by decide +kernel
theorem dX6_walk_68 : decode cX6_walk 68 = .ok (.iand, 1) := by decide +kernel
theorem dX6_walk_69 : decode cX6_walk 69 = .ok (.istore 8, 2) := by decide +kernel
theorem dX6_walk_71 : decode cX6_walk 71 = .ok (.aload_n 1, 1) := by decide +kernel
theorem dX6_walk_72 : decode cX6_walk 72 = .ok (.iload 5, 2) := by decide +kernel
theorem dX6_walk_74 : decode cX6_walk 74 = .ok (.iload 8, 2) := by decide +kernel
theorem dX6_walk_76 : decode cX6_walk 76 = .ok (.invokevirtual 62, 3) := by decide +kernel
theorem dX6_walk_79 : decode cX6_walk 79 = .ok (.istore 6, 2) := by decide +kernel
theorem dX6_walk_81 : decode cX6_walk 81 = .ok (.iload 8, 2) := by decide +kernel
theorem dX6_walk_83 : decode cX6_walk 83 = .ok (.ifCond .eq 18, 3) := by decide +kernel
theorem dX6_walk_86 : decode cX6_walk 86 = .ok (.aload_n 0, 1) := by decide +kernel
theorem dX6_walk_87 : decode cX6_walk 87 = .ok (.iload 7, 2) := by decide +kernel
theorem dX6_walk_89 : decode cX6_walk 89 = .ok (.iconst 1, 1) := by decide +kernel
theorem dX6_walk_90 : decode cX6_walk 90 = .ok (.iadd, 1) := by decide +kernel
theorem dX6_walk_91 : decode cX6_walk 91 = .ok (.iload 5, 2) := by decide +kernel
theorem dX6_walk_93 : decode cX6_walk 93 = .ok (.iload 8, 2) := by decide +kernel
theorem dX6_walk_95 : decode cX6_walk 95 = .ok (.invokestatic 65, 3) := by decide +kernel
theorem dX6_walk_98 : decode cX6_walk 98 = .ok (.invokevirtual 68, 3) := by decide +kernel
theorem dX6_walk_101 : decode cX6_walk 101 = .ok (.iinc 7 1, 3) := by decide +kernel
theorem dX6_walk_104 : decode cX6_walk 104 = .ok (.goto (-62), 3) := by decide +kernel
theorem dX6_walk_107 : decode cX6_walk 107 = .ok (.iinc 4 1, 3) := by decide +kernel
theorem dX6_walk_110 : decode cX6_walk 110 = .ok (.goto (-103), 3) := by decide +kernel
theorem dX6_walk_113 : decode cX6_walk 113 = .ok (.return_, 1) := by decide +kernel
theorem dX6_remember_0 : decode cX6_remember 0 = .ok (.aload_n 0, 1) := by decide +kernel
theorem dX6_remember_1 : decode cX6_remember 1 = .ok (.invokevirtual 30, 3) := by decide +kernel
theorem dX6_remember_4 : decode cX6_remember 4 = .ok (.iconst 0, 1) := by decide +kernel
theorem dX6_remember_5 : decode cX6_remember 5 = .ok (.istore 4, 2) := by decide +kernel
theorem dX6_remember_7 : decode cX6_remember 7 = .ok (.iload 4, 2) := by decide +kernel
theorem dX6_remember_9 : decode cX6_remember 9 = .ok (.aload_n 3, 1) := by decide +kernel
theorem dX6_remember_10 : decode cX6_remember 10 = .ok (.getfield 33, 3) := by decide +kernel
theorem dX6_remember_13 : decode cX6_remember 13 = .ok (.if_icmp .ge 61, 3) := by decide +kernel
theorem dX6_remember_16 : decode cX6_remember 16 = .ok (.aload_n 3, 1) := by decide +kernel
theorem dX6_remember_17 : decode cX6_remember 17 = .ok (.getfield 72, 3) := by decide +kernel
theorem dX6_remember_20 : decode cX6_remember 20 = .ok (.iload 4, 2) := by decide +kernel
theorem dX6_remember_22 : decode cX6_remember 22 = .ok (.iaload, 1) := by decide +kernel
theorem dX6_remember_23 : decode cX6_remember 23 = .ok (.iconst (-1), 1) := by decide +kernel
theorem dX6_remember_24 : decode cX6_remember 24 = .ok (.if_icmp .ne 13, 3) := by decide +kernel
theorem dX6_remember_27 : decode cX6_remember 27 = .ok (.aload_n 3, 1) := by decide +kernel
theorem dX6_remember_28 : decode cX6_remember 28 = .ok (.getfield 47, 3) := by decide +kernel
theorem dX6_remember_31 : decode cX6_remember 31 = .ok (.iload 4, 2) := by decide +kernel
theorem dX6_remember_33 : decode cX6_remember 33 = .ok (.iaload, 1) := by decide +kernel
theorem dX6_remember_34 : decode cX6_remember 34 = .ok (.goto 10, 3) := by decide +kernel
theorem dX6_remember_37 : decode cX6_remember 37 = .ok (.aload_n 3, 1) := by decide +kernel
theorem dX6_remember_38 : decode cX6_remember 38 = .ok (.getfield 75, 3) := by decide +kernel
theorem dX6_remember_41 : decode cX6_remember 41 = .ok (.iload 4, 2) := by decide +kernel
theorem dX6_remember_43 : decode cX6_remember 43 = .ok (.iaload, 1) := by decide +kernel
theorem dX6_remember_44 : decode cX6_remember 44 = .ok (.istore 5, 2) := by decide +kernel
theorem dX6_remember_46 : decode cX6_remember 46 = .ok (.aload_n 0, 1) := by decide +kernel
theorem dX6_remember_47 : decode cX6_remember 47 = .ok (.aload_n 1, 1) := by decide +kernel
theorem dX6_remember_48 : decode cX6_remember 48 = .ok (.aload_n 2, 1) := by decide +kernel
theorem dX6_remember_49 : decode cX6_remember 49 = .ok (.aload_n 3, 1) := by decide +kernel
theorem dX6_remember_50 : decode cX6_remember 50 = .ok (.getfield 38, 3) := by decide +kernel
theorem dX6_remember_53 : decode cX6_remember 53 = .ok (.iload 4, 2) := by decide +kernel
theorem dX6_remember_55 : decode cX6_remember 55 = .ok (.iaload, 1) := by decide +kernel
theorem dX6_remember_56 : decode cX6_remember 56 = .ok (.aload_n 3, 1) := by decide +kernel
theorem dX6_remember_57 : decode cX6_remember 57 = .ok (.getfield 47, 3) := by decide +kernel
theorem dX6_remember_60 : decode cX6_remember 60 = .ok (.iload 4, 2) := by decide +kernel
theorem dX6_remember_62 : decode cX6_remember 62 = .ok (.iaload, 1) := by decide +kernel
theorem dX6_remember_63 : decode cX6_remember 63 = .ok (.iload 5, 2) := by decide +kernel
theorem dX6_remember_65 : decode cX6_remember 65 = .ok (.invokevirtual 78, 3) := by decide +kernel
theorem dX6_remember_68 : decode cX6_remember 68 = .ok (.iinc 4 1, 3) := by decide +kernel
theorem dX6_remember_71 : decode cX6_remember 71 = .ok (.goto (-64), 3) := by decide +kernel
theorem dX6_remember_74 : decode cX6_remember 74 = .ok (.return_, 1) := by decide +kernel
theorem dX6_readOn_0 : decode cX6_readOn 0 = .ok (.aload_n 1, 1) := by decide +kernel
theorem dX6_readOn_1 : decode cX6_readOn 1 = .ok (.iload_n 3, 1) := by decide +kernel
theorem dX6_readOn_2 : decode cX6_readOn 2 = .ok (.invokevirtual 41, 3) := by decide +kernel
theorem dX6_readOn_5 : decode cX6_readOn 5 = .ok (.istore 6, 2) := by decide +kernel
theorem dX6_readOn_7 : decode cX6_readOn 7 = .ok (.iconst 1, 1) := by decide +kernel
theorem dX6_readOn_8 : decode cX6_readOn 8 = .ok (.istore 7, 2) := by decide +kernel
theorem dX6_readOn_10 : decode cX6_readOn 10 = .ok (.iload 4, 2) := by decide +kernel
theorem dX6_readOn_12 : decode cX6_readOn 12 = .ok (.istore 8, 2) := by decide +kernel
theorem dX6_readOn_14 : decode cX6_readOn 14 = .ok (.iload 8, 2) := by decide +kernel
theorem dX6_readOn_16 : decode cX6_readOn 16 = .ok (.aload_n 2, 1) := by decide +kernel
theorem dX6_readOn_17 : decode cX6_readOn 17 = .ok (.getfield 82, 3) := by decide +kernel
theorem dX6_readOn_20 : decode cX6_readOn 20 = .ok (.if_icmp .ge 107, 3) := by decide +kernel
theorem dX6_readOn_23 : decode cX6_readOn 23 = .ok (.iload 7, 2) := by decide +kernel
theorem dX6_readOn_25 : decode cX6_readOn 25 = .ok (.ifCond .eq 102, 3) := by decide +kernel
theorem dX6_readOn_28 : decode cX6_readOn 28 = .ok (.iload 6, 2) := by decide +kernel
theorem dX6_readOn_30 : decode cX6_readOn 30 = .ok (.aload_n 1, 1) := by decide +kernel
theorem dX6_readOn_31 : decode cX6_readOn 31 = .ok (.iload_n 3, 1) := by decide +kernel
theorem dX6_readOn_32 : decode cX6_readOn 32 = .ok (.aload_n 2, 1) := by decide +kernel
theorem dX6_readOn_33 : decode cX6_readOn 33 = .ok (.iload 8, 2) := by decide +kernel
theorem dX6_readOn_35 : decode cX6_readOn 35 = .ok (.invokevirtual 53, 3) := by decide +kernel
theorem dX6_readOn_38 : decode cX6_readOn 38 = .ok (.invokevirtual 58, 3) := by decide +kernel
theorem dX6_readOn_41 : decode cX6_readOn 41 = .ok (.iand, 1) := by decide +kernel
theorem dX6_readOn_42 : decode cX6_readOn 42 = .ok (.istore 9, 2) := by decide +kernel
theorem dX6_readOn_44 : decode cX6_readOn 44 = .ok (.aload_n 1, 1) := by decide +kernel
theorem dX6_readOn_45 : decode cX6_readOn 45 = .ok (.iload_n 3, 1) := by decide +kernel
theorem dX6_readOn_46 : decode cX6_readOn 46 = .ok (.iload 9, 2) := by decide +kernel
theorem dX6_readOn_48 : decode cX6_readOn 48 = .ok (.invokevirtual 62, 3) := by decide +kernel
theorem dX6_readOn_51 : decode cX6_readOn 51 = .ok (.istore 6, 2) := by decide +kernel
theorem dX6_readOn_53 : decode cX6_readOn 53 = .ok (.aload_n 0, 1) := by decide +kernel
theorem dX6_readOn_54 : decode cX6_readOn 54 = .ok (.dup, 1) := by decide +kernel
theorem dX6_readOn_55 : decode cX6_readOn 55 = .ok (.getfield 27, 3) := by decide +kernel
theorem dX6_readOn_58 : decode cX6_readOn 58 = .ok (.iconst 1, 1) := by decide +kernel
theorem dX6_readOn_59 : decode cX6_readOn 59 = .ok (.iadd, 1) := by decide +kernel
theorem dX6_readOn_60 : decode cX6_readOn 60 = .ok (.putfield 27, 3) := by decide +kernel
theorem dX6_readOn_63 : decode cX6_readOn 63 = .ok (.iload_n 3, 1) := by decide +kernel
theorem dX6_readOn_64 : decode cX6_readOn 64 = .ok (.iload 9, 2) := by decide +kernel
theorem dX6_readOn_66 : decode cX6_readOn 66 = .ok (.invokestatic 65, 3) := by decide +kernel
theorem dX6_readOn_69 : decode cX6_readOn 69 = .ok (.istore 10, 2) := by decide +kernel
theorem dX6_readOn_71 : decode cX6_readOn 71 = .ok (.iload 9, 2) := by decide +kernel
theorem dX6_readOn_73 : decode cX6_readOn 73 = .ok (.ifCond .eq 21, 3) := by decide +kernel
theorem dX6_readOn_76 : decode cX6_readOn 76 = .ok (.aload_n 0, 1) := by decide +kernel
theorem dX6_readOn_77 : decode cX6_readOn 77 = .ok (.iload 8, 2) := by decide +kernel
theorem dX6_readOn_79 : decode cX6_readOn 79 = .ok (.iconst 1, 1) := by decide +kernel
theorem dX6_readOn_80 : decode cX6_readOn 80 = .ok (.iadd, 1) := by decide +kernel
theorem dX6_readOn_81 : decode cX6_readOn 81 = .ok (.iload 10, 2) := by decide +kernel
theorem dX6_readOn_83 : decode cX6_readOn 83 = .ok (.invokevirtual 85, 3) := by decide +kernel
theorem dX6_readOn_86 : decode cX6_readOn 86 = .ok (.iconst (-1), 1) := by decide +kernel
theorem dX6_readOn_87 : decode cX6_readOn 87 = .ok (.if_icmp .ne 7, 3) := by decide +kernel
theorem dX6_readOn_90 : decode cX6_readOn 90 = .ok (.iconst 1, 1) := by decide +kernel
theorem dX6_readOn_91 : decode cX6_readOn 91 = .ok (.goto 4, 3) := by decide +kernel
theorem dX6_readOn_94 : decode cX6_readOn 94 = .ok (.iconst 0, 1) := by decide +kernel
theorem dX6_readOn_95 : decode cX6_readOn 95 = .ok (.istore 7, 2) := by decide +kernel
theorem dX6_readOn_97 : decode cX6_readOn 97 = .ok (.iload 7, 2) := by decide +kernel
theorem dX6_readOn_99 : decode cX6_readOn 99 = .ok (.ifCond .eq 22, 3) := by decide +kernel
theorem dX6_readOn_102 : decode cX6_readOn 102 = .ok (.iload 8, 2) := by decide +kernel
theorem dX6_readOn_104 : decode cX6_readOn 104 = .ok (.iconst 1, 1) := by decide +kernel
theorem dX6_readOn_105 : decode cX6_readOn 105 = .ok (.iadd, 1) := by decide +kernel
theorem dX6_readOn_106 : decode cX6_readOn 106 = .ok (.iload 5, 2) := by decide +kernel
theorem dX6_readOn_108 : decode cX6_readOn 108 = .ok (.if_icmp .le 13, 3) := by decide +kernel
theorem dX6_readOn_111 : decode cX6_readOn 111 = .ok (.aload_n 0, 1) := by decide +kernel
theorem dX6_readOn_112 : decode cX6_readOn 112 = .ok (.iload 8, 2) := by decide +kernel
theorem dX6_readOn_114 : decode cX6_readOn 114 = .ok (.iconst 1, 1) := by decide +kernel
theorem dX6_readOn_115 : decode cX6_readOn 115 = .ok (.iadd, 1) := by decide +kernel
theorem dX6_readOn_116 : decode cX6_readOn 116 = .ok (.iload 10, 2) := by decide +kernel
theorem dX6_readOn_118 : decode cX6_readOn 118 = .ok (.invokevirtual 68, 3) := by decide +kernel
theorem dX6_readOn_121 : decode cX6_readOn 121 = .ok (.iinc 8 1, 3) := by decide +kernel
theorem dX6_readOn_124 : decode cX6_readOn 124 = .ok (.goto (-110), 3) := by decide +kernel
theorem dX6_readOn_127 : decode cX6_readOn 127 = .ok (.return_, 1) := by decide +kernel
theorem dX6_repeated_0 : decode cX6_repeated 0 = .ok (.iconst 0, 1) := by decide +kernel
theorem dX6_repeated_1 : decode cX6_repeated 1 = .ok (.istore_n 1, 1) := by decide +kernel
theorem dX6_repeated_2 : decode cX6_repeated 2 = .ok (.iconst 0, 1) := by decide +kernel
theorem dX6_repeated_3 : decode cX6_repeated 3 = .ok (.istore_n 2, 1) := by decide +kernel
theorem dX6_repeated_4 : decode cX6_repeated 4 = .ok (.iload_n 2, 1) := by decide +kernel
theorem dX6_repeated_5 : decode cX6_repeated 5 = .ok (.bipush 24, 2) := by decide +kernel
theorem dX6_repeated_7 : decode cX6_repeated 7 = .ok (.if_icmp .gt 47, 3) := by decide +kernel
theorem dX6_repeated_10 : decode cX6_repeated 10 = .ok (.iconst 0, 1) := by decide +kernel
theorem dX6_repeated_11 : decode cX6_repeated 11 = .ok (.istore_n 3, 1) := by decide +kernel
theorem dX6_repeated_12 : decode cX6_repeated 12 = .ok (.iload_n 3, 1) := by decide +kernel
theorem dX6_repeated_13 : decode cX6_repeated 13 = .ok (.aload_n 0, 1) := by decide +kernel
theorem dX6_repeated_14 : decode cX6_repeated 14 = .ok (.getfield 19, 3) := by decide +kernel
theorem dX6_repeated_17 : decode cX6_repeated 17 = .ok (.iload_n 2, 1) := by decide +kernel
theorem dX6_repeated_18 : decode cX6_repeated 18 = .ok (.iaload, 1) := by decide +kernel
theorem dX6_repeated_19 : decode cX6_repeated 19 = .ok (.if_icmp .ge 29, 3) := by decide +kernel
theorem dX6_repeated_22 : decode cX6_repeated 22 = .ok (.iload_n 1, 1) := by decide +kernel
theorem dX6_repeated_23 : decode cX6_repeated 23 = .ok (.aload_n 0, 1) := by decide +kernel
theorem dX6_repeated_24 : decode cX6_repeated 24 = .ok (.getfield 16, 3) := by decide +kernel
theorem dX6_repeated_27 : decode cX6_repeated 27 = .ok (.iload_n 2, 1) := by decide +kernel
theorem dX6_repeated_28 : decode cX6_repeated 28 = .ok (.aaload, 1) := by decide +kernel
theorem dX6_repeated_29 : decode cX6_repeated 29 = .ok (.iload_n 3, 1) := by decide +kernel
theorem dX6_repeated_30 : decode cX6_repeated 30 = .ok (.iaload, 1) := by decide +kernel
theorem dX6_repeated_31 : decode cX6_repeated 31 = .ok (.iconst 1, 1) := by decide +kernel
theorem dX6_repeated_32 : decode cX6_repeated 32 = .ok (.if_icmp .le 7, 3) := by decide +kernel
theorem dX6_repeated_35 : decode cX6_repeated 35 = .ok (.iconst 1, 1) := by decide +kernel
theorem dX6_repeated_36 : decode cX6_repeated 36 = .ok (.goto 4, 3) := by decide +kernel
theorem dX6_repeated_39 : decode cX6_repeated 39 = .ok (.iconst 0, 1) := by decide +kernel
theorem dX6_repeated_40 : decode cX6_repeated 40 = .ok (.iadd, 1) := by decide +kernel
theorem dX6_repeated_41 : decode cX6_repeated 41 = .ok (.istore_n 1, 1) := by decide +kernel
theorem dX6_repeated_42 : decode cX6_repeated 42 = .ok (.iinc 3 1, 3) := by decide +kernel
theorem dX6_repeated_45 : decode cX6_repeated 45 = .ok (.goto (-33), 3) := by decide +kernel
theorem dX6_repeated_48 : decode cX6_repeated 48 = .ok (.iinc 2 1, 3) := by decide +kernel
theorem dX6_repeated_51 : decode cX6_repeated 51 = .ok (.goto (-47), 3) := by decide +kernel
theorem dX6_repeated_54 : decode cX6_repeated 54 = .ok (.iload_n 1, 1) := by decide +kernel
theorem dX6_repeated_55 : decode cX6_repeated 55 = .ok (.ireturn, 1) := by decide +kernel
theorem dX6_mostTimes_0 : decode cX6_mostTimes 0 = .ok (.iconst 0, 1) := by decide +kernel
theorem dX6_mostTimes_1 : decode cX6_mostTimes 1 = .ok (.istore_n 1, 1) := by decide +kernel
theorem dX6_mostTimes_2 : decode cX6_mostTimes 2 = .ok (.iconst 0, 1) := by decide +kernel
theorem dX6_mostTimes_3 : decode cX6_mostTimes 3 = .ok (.istore_n 2, 1) := by decide +kernel
theorem dX6_mostTimes_4 : decode cX6_mostTimes 4 = .ok (.iload_n 2, 1) := by decide +kernel
theorem dX6_mostTimes_5 : decode cX6_mostTimes 5 = .ok (.bipush 24, 2) := by decide +kernel
theorem dX6_mostTimes_7 : decode cX6_mostTimes 7 = .ok (.if_icmp .gt 40, 3) := by decide +kernel
theorem dX6_mostTimes_10 : decode cX6_mostTimes 10 = .ok (.iconst 0, 1) := by decide +kernel
theorem dX6_mostTimes_11 : decode cX6_mostTimes 11 = .ok (.istore_n 3, 1) := by decide +kernel
theorem dX6_mostTimes_12 : decode cX6_mostTimes 12 = .ok (.iload_n 3, 1) := by decide +kernel
theorem dX6_mostTimes_13 : decode cX6_mostTimes 13 = .ok (.aload_n 0, 1) := by decide +kernel
theorem dX6_mostTimes_14 : decode cX6_mostTimes 14 = .ok (.getfield 19, 3) := by decide +kernel
theorem dX6_mostTimes_17 : decode cX6_mostTimes 17 = .ok (.iload_n 2, 1) := by decide +kernel
theorem dX6_mostTimes_18 : decode cX6_mostTimes 18 = .ok (.iaload, 1) := by decide +kernel
theorem dX6_mostTimes_19 : decode cX6_mostTimes 19 = .ok (.if_icmp .ge 22, 3) := by decide +kernel
theorem dX6_mostTimes_22 : decode cX6_mostTimes 22 = .ok (.iload_n 1, 1) := by decide +kernel
theorem dX6_mostTimes_23 : decode cX6_mostTimes 23 = .ok (.aload_n 0, 1) := by decide +kernel
theorem dX6_mostTimes_24 : decode cX6_mostTimes 24 = .ok (.getfield 16, 3) := by decide +kernel
theorem dX6_mostTimes_27 : decode cX6_mostTimes 27 = .ok (.iload_n 2, 1) := by decide +kernel
theorem dX6_mostTimes_28 : decode cX6_mostTimes 28 = .ok (.aaload, 1) := by decide +kernel
theorem dX6_mostTimes_29 : decode cX6_mostTimes 29 = .ok (.iload_n 3, 1) := by decide +kernel
theorem dX6_mostTimes_30 : decode cX6_mostTimes 30 = .ok (.iaload, 1) := by decide +kernel
theorem dX6_mostTimes_31 : decode cX6_mostTimes 31 = .ok (.invokestatic 88, 3) := by decide +kernel
theorem dX6_mostTimes_34 : decode cX6_mostTimes 34 = .ok (.istore_n 1, 1) := by decide +kernel
theorem dX6_mostTimes_35 : decode cX6_mostTimes 35 = .ok (.iinc 3 1, 3) := by decide +kernel
theorem dX6_mostTimes_38 : decode cX6_mostTimes 38 = .ok (.goto (-26), 3) := by decide +kernel
theorem dX6_mostTimes_41 : decode cX6_mostTimes 41 = .ok (.iinc 2 1, 3) := by decide +kernel
theorem dX6_mostTimes_44 : decode cX6_mostTimes 44 = .ok (.goto (-40), 3) := by decide +kernel
theorem dX6_mostTimes_47 : decode cX6_mostTimes 47 = .ok (.iload_n 1, 1) := by decide +kernel
theorem dX6_mostTimes_48 : decode cX6_mostTimes 48 = .ok (.ireturn, 1) := by decide +kernel
theorem dX6_clear_0 : decode cX6_clear 0 = .ok (.aload_n 0, 1) := by decide +kernel
theorem dX6_clear_1 : decode cX6_clear 1 = .ok (.getfield 19, 3) := by decide +kernel
theorem dX6_clear_4 : decode cX6_clear 4 = .ok (.iconst 0, 1) := by decide +kernel
theorem dX6_clear_5 : decode cX6_clear 5 = .ok (.invokestatic 93, 3) := by decide +kernel
theorem dX6_clear_8 : decode cX6_clear 8 = .ok (.aload_n 0, 1) := by decide +kernel
theorem dX6_clear_9 : decode cX6_clear 9 = .ok (.iconst 0, 1) := by decide +kernel
theorem dX6_clear_10 : decode cX6_clear 10 = .ok (.putfield 23, 3) := by decide +kernel
theorem dX6_clear_13 : decode cX6_clear 13 = .ok (.aload_n 0, 1) := by decide +kernel
theorem dX6_clear_14 : decode cX6_clear 14 = .ok (.iconst 0, 1) := by decide +kernel
theorem dX6_clear_15 : decode cX6_clear 15 = .ok (.putfield 27, 3) := by decide +kernel
theorem dX6_clear_18 : decode cX6_clear 18 = .ok (.return_, 1) := by decide +kernel
theorem dX6_keyOf_0 : decode cX6_keyOf 0 = .ok (.iload_n 0, 1) := by decide +kernel
theorem dX6_keyOf_1 : decode cX6_keyOf 1 = .ok (.sipush 1024, 3) := by decide +kernel
theorem dX6_keyOf_4 : decode cX6_keyOf 4 = .ok (.imul, 1) := by decide +kernel
theorem dX6_keyOf_5 : decode cX6_keyOf 5 = .ok (.iload_n 1, 1) := by decide +kernel
theorem dX6_keyOf_6 : decode cX6_keyOf 6 = .ok (.iadd, 1) := by decide +kernel
theorem dX6_keyOf_7 : decode cX6_keyOf 7 = .ok (.ireturn, 1) := by decide +kernel
theorem dX6_indexOf_0 : decode cX6_indexOf 0 = .ok (.iload_n 1, 1) := by decide +kernel
theorem dX6_indexOf_1 : decode cX6_indexOf 1 = .ok (.ifCond .lt 9, 3) := by decide +kernel
theorem dX6_indexOf_4 : decode cX6_indexOf 4 = .ok (.iload_n 1, 1) := by decide +kernel
theorem dX6_indexOf_5 : decode cX6_indexOf 5 = .ok (.bipush 24, 2) := by decide +kernel
theorem dX6_indexOf_7 : decode cX6_indexOf 7 = .ok (.if_icmp .le 5, 3) := by decide +kernel
theorem dX6_indexOf_10 : decode cX6_indexOf 10 = .ok (.iconst (-1), 1) := by decide +kernel
theorem dX6_indexOf_11 : decode cX6_indexOf 11 = .ok (.ireturn, 1) := by decide +kernel
theorem dX6_indexOf_12 : decode cX6_indexOf 12 = .ok (.iconst 0, 1) := by decide +kernel
theorem dX6_indexOf_13 : decode cX6_indexOf 13 = .ok (.istore_n 3, 1) := by decide +kernel
theorem dX6_indexOf_14 : decode cX6_indexOf 14 = .ok (.iload_n 3, 1) := by decide +kernel
theorem dX6_indexOf_15 : decode cX6_indexOf 15 = .ok (.aload_n 0, 1) := by decide +kernel
theorem dX6_indexOf_16 : decode cX6_indexOf 16 = .ok (.getfield 19, 3) := by decide +kernel
theorem dX6_indexOf_19 : decode cX6_indexOf 19 = .ok (.iload_n 1, 1) := by decide +kernel
theorem dX6_indexOf_20 : decode cX6_indexOf 20 = .ok (.iaload, 1) := by decide +kernel
theorem dX6_indexOf_21 : decode cX6_indexOf 21 = .ok (.if_icmp .ge 23, 3) := by decide +kernel
theorem dX6_indexOf_24 : decode cX6_indexOf 24 = .ok (.aload_n 0, 1) := by decide +kernel
theorem dX6_indexOf_25 : decode cX6_indexOf 25 = .ok (.getfield 11, 3) := by decide +kernel
theorem dX6_indexOf_28 : decode cX6_indexOf 28 = .ok (.iload_n 1, 1) := by decide +kernel
theorem dX6_indexOf_29 : decode cX6_indexOf 29 = .ok (.aaload, 1) := by decide +kernel
theorem dX6_indexOf_30 : decode cX6_indexOf 30 = .ok (.iload_n 3, 1) := by decide +kernel
theorem dX6_indexOf_31 : decode cX6_indexOf 31 = .ok (.iaload, 1) := by decide +kernel
theorem dX6_indexOf_32 : decode cX6_indexOf 32 = .ok (.iload_n 2, 1) := by decide +kernel
theorem dX6_indexOf_33 : decode cX6_indexOf 33 = .ok (.if_icmp .ne 5, 3) := by decide +kernel
theorem dX6_indexOf_36 : decode cX6_indexOf 36 = .ok (.iload_n 3, 1) := by decide +kernel
theorem dX6_indexOf_37 : decode cX6_indexOf 37 = .ok (.ireturn, 1) := by decide +kernel
theorem dX6_indexOf_38 : decode cX6_indexOf 38 = .ok (.iinc 3 1, 3) := by decide +kernel
theorem dX6_indexOf_41 : decode cX6_indexOf 41 = .ok (.goto (-27), 3) := by decide +kernel
theorem dX6_indexOf_44 : decode cX6_indexOf 44 = .ok (.iconst (-1), 1) := by decide +kernel
theorem dX6_indexOf_45 : decode cX6_indexOf 45 = .ok (.ireturn, 1) := by decide +kernel
theorem dX6_comeTo_0 : decode cX6_comeTo 0 = .ok (.iload_n 1, 1) := by decide +kernel
theorem dX6_comeTo_1 : decode cX6_comeTo 1 = .ok (.ifCond .lt 9, 3) := by decide +kernel
theorem dX6_comeTo_4 : decode cX6_comeTo 4 = .ok (.iload_n 1, 1) := by decide +kernel
theorem dX6_comeTo_5 : decode cX6_comeTo 5 = .ok (.bipush 24, 2) := by decide +kernel
theorem dX6_comeTo_7 : decode cX6_comeTo 7 = .ok (.if_icmp .le 4, 3) := by decide +kernel
theorem dX6_comeTo_10 : decode cX6_comeTo 10 = .ok (.return_, 1) := by decide +kernel
theorem dX6_comeTo_11 : decode cX6_comeTo 11 = .ok (.aload_n 0, 1) := by decide +kernel
theorem dX6_comeTo_12 : decode cX6_comeTo 12 = .ok (.iload_n 1, 1) := by decide +kernel
theorem dX6_comeTo_13 : decode cX6_comeTo 13 = .ok (.iload_n 2, 1) := by decide +kernel
theorem dX6_comeTo_14 : decode cX6_comeTo 14 = .ok (.invokevirtual 85, 3) := by decide +kernel
theorem dX6_comeTo_17 : decode cX6_comeTo 17 = .ok (.istore_n 3, 1) := by decide +kernel
theorem dX6_comeTo_18 : decode cX6_comeTo 18 = .ok (.iload_n 3, 1) := by decide +kernel
theorem dX6_comeTo_19 : decode cX6_comeTo 19 = .ok (.iconst (-1), 1) := by decide +kernel
theorem dX6_comeTo_20 : decode cX6_comeTo 20 = .ok (.if_icmp .eq 18, 3) := by decide +kernel
theorem dX6_comeTo_23 : decode cX6_comeTo 23 = .ok (.aload_n 0, 1) := by decide +kernel
theorem dX6_comeTo_24 : decode cX6_comeTo 24 = .ok (.getfield 16, 3) := by decide +kernel
theorem dX6_comeTo_27 : decode cX6_comeTo 27 = .ok (.iload_n 1, 1) := by decide +kernel
theorem dX6_comeTo_28 : decode cX6_comeTo 28 = .ok (.aaload, 1) := by decide +kernel
theorem dX6_comeTo_29 : decode cX6_comeTo 29 = .ok (.iload_n 3, 1) := by decide +kernel
theorem dX6_comeTo_30 : decode cX6_comeTo 30 = .ok (.dup2, 1) := by decide +kernel
theorem dX6_comeTo_31 : decode cX6_comeTo 31 = .ok (.iaload, 1) := by decide +kernel
theorem dX6_comeTo_32 : decode cX6_comeTo 32 = .ok (.iconst 1, 1) := by decide +kernel
theorem dX6_comeTo_33 : decode cX6_comeTo 33 = .ok (.iadd, 1) := by decide +kernel
theorem dX6_comeTo_34 : decode cX6_comeTo 34 = .ok (.iastore, 1) := by decide +kernel
theorem dX6_comeTo_35 : decode cX6_comeTo 35 = .ok (.goto 62, 3) := by decide +kernel
theorem dX6_comeTo_38 : decode cX6_comeTo 38 = .ok (.aload_n 0, 1) := by decide +kernel
theorem dX6_comeTo_39 : decode cX6_comeTo 39 = .ok (.getfield 19, 3) := by decide +kernel
theorem dX6_comeTo_42 : decode cX6_comeTo 42 = .ok (.iload_n 1, 1) := by decide +kernel
theorem dX6_comeTo_43 : decode cX6_comeTo 43 = .ok (.iaload, 1) := by decide +kernel
theorem dX6_comeTo_44 : decode cX6_comeTo 44 = .ok (.bipush 24, 2) := by decide +kernel
theorem dX6_comeTo_46 : decode cX6_comeTo 46 = .ok (.if_icmp .ge 51, 3) := by decide +kernel
theorem dX6_comeTo_49 : decode cX6_comeTo 49 = .ok (.aload_n 0, 1) := by decide +kernel
theorem dX6_comeTo_50 : decode cX6_comeTo 50 = .ok (.getfield 11, 3) := by decide +kernel
theorem dX6_comeTo_53 : decode cX6_comeTo 53 = .ok (.iload_n 1, 1) := by decide +kernel
theorem dX6_comeTo_54 : decode cX6_comeTo 54 = .ok (.aaload, 1) := by decide +kernel
theorem dX6_comeTo_55 : decode cX6_comeTo 55 = .ok (.aload_n 0, 1) := by decide +kernel
theorem dX6_comeTo_56 : decode cX6_comeTo 56 = .ok (.getfield 19, 3) := by decide +kernel
theorem dX6_comeTo_59 : decode cX6_comeTo 59 = .ok (.iload_n 1, 1) := by decide +kernel
theorem dX6_comeTo_60 : decode cX6_comeTo 60 = .ok (.iaload, 1) := by decide +kernel
theorem dX6_comeTo_61 : decode cX6_comeTo 61 = .ok (.iload_n 2, 1) := by decide +kernel
theorem dX6_comeTo_62 : decode cX6_comeTo 62 = .ok (.iastore, 1) := by decide +kernel
theorem dX6_comeTo_63 : decode cX6_comeTo 63 = .ok (.aload_n 0, 1) := by decide +kernel
theorem dX6_comeTo_64 : decode cX6_comeTo 64 = .ok (.getfield 16, 3) := by decide +kernel
theorem dX6_comeTo_67 : decode cX6_comeTo 67 = .ok (.iload_n 1, 1) := by decide +kernel
theorem dX6_comeTo_68 : decode cX6_comeTo 68 = .ok (.aaload, 1) := by decide +kernel
theorem dX6_comeTo_69 : decode cX6_comeTo 69 = .ok (.aload_n 0, 1) := by decide +kernel
theorem dX6_comeTo_70 : decode cX6_comeTo 70 = .ok (.getfield 19, 3) := by decide +kernel
theorem dX6_comeTo_73 : decode cX6_comeTo 73 = .ok (.iload_n 1, 1) := by decide +kernel
theorem dX6_comeTo_74 : decode cX6_comeTo 74 = .ok (.iaload, 1) := by decide +kernel
theorem dX6_comeTo_75 : decode cX6_comeTo 75 = .ok (.iconst 1, 1) := by decide +kernel
theorem dX6_comeTo_76 : decode cX6_comeTo 76 = .ok (.iastore, 1) := by decide +kernel
theorem dX6_comeTo_77 : decode cX6_comeTo 77 = .ok (.aload_n 0, 1) := by decide +kernel
theorem dX6_comeTo_78 : decode cX6_comeTo 78 = .ok (.getfield 19, 3) := by decide +kernel
theorem dX6_comeTo_81 : decode cX6_comeTo 81 = .ok (.iload_n 1, 1) := by decide +kernel
theorem dX6_comeTo_82 : decode cX6_comeTo 82 = .ok (.dup2, 1) := by decide +kernel
theorem dX6_comeTo_83 : decode cX6_comeTo 83 = .ok (.iaload, 1) := by decide +kernel
theorem dX6_comeTo_84 : decode cX6_comeTo 84 = .ok (.iconst 1, 1) := by decide +kernel
theorem dX6_comeTo_85 : decode cX6_comeTo 85 = .ok (.iadd, 1) := by decide +kernel
theorem dX6_comeTo_86 : decode cX6_comeTo 86 = .ok (.iastore, 1) := by decide +kernel
theorem dX6_comeTo_87 : decode cX6_comeTo 87 = .ok (.aload_n 0, 1) := by decide +kernel
theorem dX6_comeTo_88 : decode cX6_comeTo 88 = .ok (.dup, 1) := by decide +kernel
theorem dX6_comeTo_89 : decode cX6_comeTo 89 = .ok (.getfield 23, 3) := by decide +kernel
theorem dX6_comeTo_92 : decode cX6_comeTo 92 = .ok (.iconst 1, 1) := by decide +kernel
theorem dX6_comeTo_93 : decode cX6_comeTo 93 = .ok (.iadd, 1) := by decide +kernel
theorem dX6_comeTo_94 : decode cX6_comeTo 94 = .ok (.putfield 23, 3) := by decide +kernel
theorem dX6_comeTo_97 : decode cX6_comeTo 97 = .ok (.return_, 1) := by decide +kernel
theorem dX7_init_0 : decode cX7_init 0 = .ok (.aload_n 0, 1) := by decide +kernel
theorem dX7_init_1 : decode cX7_init 1 = .ok (.invokespecial 3, 3) := by decide +kernel
theorem dX7_init_4 : decode cX7_init 4 = .ok (.aload_n 0, 1) := by decide +kernel
theorem dX7_init_5 : decode cX7_init 5 = .ok (.iconst 0, 1) := by decide +kernel
theorem dX7_init_6 : decode cX7_init 6 = .ok (.putfield 9, 3) := by decide +kernel
theorem dX7_init_9 : decode cX7_init 9 = .ok (.aload_n 0, 1) := by decide +kernel
theorem dX7_init_10 : decode cX7_init 10 = .ok (.bipush 8, 2) := by decide +kernel
theorem dX7_init_12 : decode cX7_init 12 = .ok (.newarray .int, 2) := by decide +kernel
theorem dX7_init_14 : decode cX7_init 14 = .ok (.putfield 15, 3) := by decide +kernel
theorem dX7_init_17 : decode cX7_init 17 = .ok (.aload_n 0, 1) := by decide +kernel
theorem dX7_init_18 : decode cX7_init 18 = .ok (.bipush 8, 2) := by decide +kernel
theorem dX7_init_20 : decode cX7_init 20 = .ok (.newarray .int, 2) := by decide +kernel
theorem dX7_init_22 : decode cX7_init 22 = .ok (.putfield 19, 3) := by decide +kernel
theorem dX7_init_25 : decode cX7_init 25 = .ok (.aload_n 0, 1) := by decide +kernel
theorem dX7_init_26 : decode cX7_init 26 = .ok (.bipush 8, 2) := by decide +kernel
theorem dX7_init_28 : decode cX7_init 28 = .ok (.newarray .int, 2) := by decide +kernel
theorem dX7_init_30 : decode cX7_init 30 = .ok (.putfield 22, 3) := by decide +kernel
theorem dX7_init_33 : decode cX7_init 33 = .ok (.aload_n 0, 1) := by decide +kernel
theorem dX7_init_34 : decode cX7_init 34 = .ok (.bipush 8, 2) := by decide +kernel
theorem dX7_init_36 : decode cX7_init 36 = .ok (.newarray .int, 2) := by decide +kernel
theorem dX7_init_38 : decode cX7_init 38 = .ok (.putfield 25, 3) := by decide +kernel
theorem dX7_init_41 : decode cX7_init 41 = .ok (.aload_n 0, 1) := by decide +kernel
theorem dX7_init_42 : decode cX7_init 42 = .ok (.bipush 8, 2) := by decide +kernel
theorem dX7_init_44 : decode cX7_init 44 = .ok (.newarray .int, 2) := by decide +kernel
theorem dX7_init_46 : decode cX7_init 46 = .ok (.putfield 28, 3) := by decide +kernel
theorem dX7_init_49 : decode cX7_init 49 = .ok (.aload_n 0, 1) := by decide +kernel
theorem dX7_init_50 : decode cX7_init 50 = .ok (.bipush 8, 2) := by decide +kernel
theorem dX7_init_52 : decode cX7_init 52 = .ok (.newarray .boolean, 2) := by decide +kernel
theorem dX7_init_54 : decode cX7_init 54 = .ok (.putfield 31, 3) := by decide +kernel
theorem dX7_init_57 : decode cX7_init 57 = .ok (.aload_n 0, 1) := by decide +kernel
theorem dX7_init_58 : decode cX7_init 58 = .ok (.iconst 4, 1) := by decide +kernel
theorem dX7_init_59 : decode cX7_init 59 = .ok (.newarray .int, 2) := by decide +kernel
theorem dX7_init_61 : decode cX7_init 61 = .ok (.putfield 35, 3) := by decide +kernel
theorem dX7_init_64 : decode cX7_init 64 = .ok (.aload_n 0, 1) := by decide +kernel
theorem dX7_init_65 : decode cX7_init 65 = .ok (.iconst 4, 1) := by decide +kernel
theorem dX7_init_66 : decode cX7_init 66 = .ok (.newarray .int, 2) := by decide +kernel
theorem dX7_init_68 : decode cX7_init 68 = .ok (.putfield 38, 3) := by decide +kernel
theorem dX7_init_71 : decode cX7_init 71 = .ok (.aload_n 0, 1) := by decide +kernel
theorem dX7_init_72 : decode cX7_init 72 = .ok (.iconst 4, 1) := by decide +kernel
theorem dX7_init_73 : decode cX7_init 73 = .ok (.bipush 10, 2) := by decide +kernel
theorem dX7_init_75 : decode cX7_init 75 = .ok (.multianewarray 41 2, 4) := by decide +kernel
theorem dX7_init_79 : decode cX7_init 79 = .ok (.putfield 43, 3) := by decide +kernel
theorem dX7_init_82 : decode cX7_init 82 = .ok (.aload_n 0, 1) := by decide +kernel
theorem dX7_init_83 : decode cX7_init 83 = .ok (.iconst 4, 1) := by decide +kernel
theorem dX7_init_84 : decode cX7_init 84 = .ok (.bipush 8, 2) := by decide +kernel
theorem dX7_init_86 : decode cX7_init 86 = .ok (.multianewarray 41 2, 4) := by decide +kernel
theorem dX7_init_90 : decode cX7_init 90 = .ok (.putfield 46, 3) := by decide +kernel
theorem dX7_init_93 : decode cX7_init 93 = .ok (.return_, 1) := by decide +kernel
theorem dX7_clear_0 : decode cX7_clear 0 = .ok (.aload_n 0, 1) := by decide +kernel
theorem dX7_clear_1 : decode cX7_clear 1 = .ok (.iconst 0, 1) := by decide +kernel
theorem dX7_clear_2 : decode cX7_clear 2 = .ok (.putfield 9, 3) := by decide +kernel
theorem dX7_clear_5 : decode cX7_clear 5 = .ok (.iconst 0, 1) := by decide +kernel
theorem dX7_clear_6 : decode cX7_clear 6 = .ok (.istore_n 1, 1) := by decide +kernel
theorem dX7_clear_7 : decode cX7_clear 7 = .ok (.iload_n 1, 1) := by decide +kernel
theorem dX7_clear_8 : decode cX7_clear 8 = .ok (.iconst 4, 1) := by decide +kernel
theorem dX7_clear_9 : decode cX7_clear 9 = .ok (.if_icmp .ge 43, 3) := by decide +kernel
theorem dX7_clear_12 : decode cX7_clear 12 = .ok (.aload_n 0, 1) := by decide +kernel
theorem dX7_clear_13 : decode cX7_clear 13 = .ok (.getfield 35, 3) := by decide +kernel
theorem dX7_clear_16 : decode cX7_clear 16 = .ok (.iload_n 1, 1) := by decide +kernel
theorem dX7_clear_17 : decode cX7_clear 17 = .ok (.iconst 0, 1) := by decide +kernel
theorem dX7_clear_18 : decode cX7_clear 18 = .ok (.iastore, 1) := by decide +kernel
theorem dX7_clear_19 : decode cX7_clear 19 = .ok (.aload_n 0, 1) := by decide +kernel
theorem dX7_clear_20 : decode cX7_clear 20 = .ok (.getfield 38, 3) := by decide +kernel
theorem dX7_clear_23 : decode cX7_clear 23 = .ok (.iload_n 1, 1) := by decide +kernel
theorem dX7_clear_24 : decode cX7_clear 24 = .ok (.iconst 0, 1) := by decide +kernel
theorem dX7_clear_25 : decode cX7_clear 25 = .ok (.iastore, 1) := by decide +kernel
theorem dX7_clear_26 : decode cX7_clear 26 = .ok (.aload_n 0, 1) := by decide +kernel
theorem dX7_clear_27 : decode cX7_clear 27 = .ok (.getfield 43, 3) := by decide +kernel
theorem dX7_clear_30 : decode cX7_clear 30 = .ok (.iload_n 1, 1) := by decide +kernel
theorem dX7_clear_31 : decode cX7_clear 31 = .ok (.aaload, 1) := by decide +kernel
theorem dX7_clear_32 : decode cX7_clear 32 = .ok (.iconst 0, 1) := by decide +kernel
theorem dX7_clear_33 : decode cX7_clear 33 = .ok (.invokestatic 49, 3) := by decide +kernel
theorem dX7_clear_36 : decode cX7_clear 36 = .ok (.aload_n 0, 1) := by decide +kernel
theorem dX7_clear_37 : decode cX7_clear 37 = .ok (.getfield 46, 3) := by decide +kernel
theorem dX7_clear_40 : decode cX7_clear 40 = .ok (.iload_n 1, 1) := by decide +kernel
theorem dX7_clear_41 : decode cX7_clear 41 = .ok (.aaload, 1) := by decide +kernel
theorem dX7_clear_42 : decode cX7_clear 42 = .ok (.iconst 0, 1) := by decide +kernel
theorem dX7_clear_43 : decode cX7_clear 43 = .ok (.invokestatic 49, 3) := by decide +kernel
theorem dX7_clear_46 : decode cX7_clear 46 = .ok (.iinc 1 1, 3) := by decide +kernel
theorem dX7_clear_49 : decode cX7_clear 49 = .ok (.goto (-42), 3) := by decide +kernel
theorem dX7_clear_52 : decode cX7_clear 52 = .ok (.return_, 1) := by decide +kernel
theorem dX7_atFirst_0 : decode cX7_atFirst 0 = .ok (.iload_n 1, 1) := by decide +kernel
theorem dX7_atFirst_1 : decode cX7_atFirst 1 = .ok (.invokestatic 55, 3) := by decide +kernel
theorem dX7_atFirst_4 : decode cX7_atFirst 4 = .ok (.ifCond .eq 12, 3) := by decide +kernel
theorem dX7_atFirst_7 : decode cX7_atFirst 7 = .ok (.aload_n 0, 1) := by decide +kernel
theorem dX7_atFirst_8 : decode cX7_atFirst 8 = .ok (.getfield 38, 3) := by decide +kernel
theorem dX7_atFirst_11 : decode cX7_atFirst 11 = .ok (.iload_n 1, 1) := by decide +kernel
theorem dX7_atFirst_12 : decode cX7_atFirst 12 = .ok (.iaload, 1) := by decide +kernel
theorem dX7_atFirst_13 : decode cX7_atFirst 13 = .ok (.goto 4, 3) := by decide +kernel
theorem dX7_atFirst_16 : decode cX7_atFirst 16 = .ok (.iconst 0, 1) := by decide +kernel
theorem dX7_atFirst_17 : decode cX7_atFirst 17 = .ok (.ireturn, 1) := by decide +kernel
theorem dX7_after_0 : decode cX7_after 0 = .ok (.iconst 0, 1) := by decide +kernel
theorem dX7_after_1 : decode cX7_after 1 = .ok (.istore_n 3, 1) := by decide +kernel
theorem dX7_after_2 : decode cX7_after 2 = .ok (.iload_n 1, 1) := by decide +kernel
theorem dX7_after_3 : decode cX7_after 3 = .ok (.invokestatic 55, 3) := by decide +kernel
theorem dX7_after_6 : decode cX7_after 6 = .ok (.ifCond .eq 44, 3) := by decide +kernel
theorem dX7_after_9 : decode cX7_after 9 = .ok (.iconst 0, 1) := by decide +kernel
theorem dX7_after_10 : decode cX7_after 10 = .ok (.istore 4, 2) := by decide +kernel
theorem dX7_after_12 : decode cX7_after 12 = .ok (.iload 4, 2) := by decide +kernel
theorem dX7_after_14 : decode cX7_after 14 = .ok (.bipush 10, 2) := by decide +kernel
theorem dX7_after_16 : decode cX7_after 16 = .ok (.if_icmp .ge 34, 3) := by decide +kernel
theorem dX7_after_19 : decode cX7_after 19 = .ok (.iload_n 3, 1) := by decide +kernel
theorem dX7_after_20 : decode cX7_after 20 = .ok (.iload_n 2, 1) := by decide +kernel
theorem dX7_after_21 : decode cX7_after 21 = .ok (.iload 4, 2) := by decide +kernel
theorem dX7_after_23 : decode cX7_after 23 = .ok (.ishr, 1) := by decide +kernel
theorem dX7_after_24 : decode cX7_after 24 = .ok (.iconst 1, 1) := by decide +kernel
theorem dX7_after_25 : decode cX7_after 25 = .ok (.iand, 1) := by decide +kernel
theorem dX7_after_26 : decode cX7_after 26 = .ok (.ifCond .eq 15, 3) := by decide +kernel
theorem dX7_after_29 : decode cX7_after 29 = .ok (.aload_n 0, 1) := by decide +kernel
theorem dX7_after_30 : decode cX7_after 30 = .ok (.getfield 43, 3) := by decide +kernel
theorem dX7_after_33 : decode cX7_after 33 = .ok (.iload_n 1, 1) := by decide +kernel
theorem dX7_after_34 : decode cX7_after 34 = .ok (.aaload, 1) := by decide +kernel
theorem dX7_after_35 : decode cX7_after 35 = .ok (.iload 4, 2) := by decide +kernel
theorem dX7_after_37 : decode cX7_after 37 = .ok (.iaload, 1) := by decide +kernel
theorem dX7_after_38 : decode cX7_after 38 = .ok (.goto 4, 3) := by decide +kernel
theorem dX7_after_41 : decode cX7_after 41 = .ok (.iconst 0, 1) := by decide +kernel
theorem dX7_after_42 : decode cX7_after 42 = .ok (.ior, 1) := by decide +kernel
theorem dX7_after_43 : decode cX7_after 43 = .ok (.istore_n 3, 1) := by decide +kernel
theorem dX7_after_44 : decode cX7_after 44 = .ok (.iinc 4 1, 3) := by decide +kernel
theorem dX7_after_47 : decode cX7_after 47 = .ok (.goto (-35), 3) := by decide +kernel
theorem dX7_after_50 : decode cX7_after 50 = .ok (.iload_n 3, 1) := by decide +kernel
theorem dX7_after_51 : decode cX7_after 51 = .ok (.ireturn, 1) := by decide +kernel
theorem dX7_takersOf_0 : decode cX7_takersOf 0 = .ok (.iload_n 1, 1) := by decide +kernel
theorem dX7_takersOf_1 : decode cX7_takersOf 1 = .ok (.invokestatic 55, 3) := by decide +kernel
theorem dX7_takersOf_4 : decode cX7_takersOf 4 = .ok (.ifCond .eq 24, 3) := by decide +kernel
theorem dX7_takersOf_7 : decode cX7_takersOf 7 = .ok (.iload_n 2, 1) := by decide +kernel
theorem dX7_takersOf_8 : decode cX7_takersOf 8 = .ok (.ifCond .lt 20, 3) := by decide +kernel
theorem dX7_takersOf_11 : decode cX7_takersOf 11 = .ok (.iload_n 2, 1) := by decide +kernel
theorem dX7_takersOf_12 : decode cX7_takersOf 12 = .ok (.bipush 8, 2) := by decide +kernel
theorem dX7_takersOf_14 : decode cX7_takersOf 14 = .ok (.if_icmp .ge 14, 3) := by decide +kernel
theorem dX7_takersOf_17 : decode cX7_takersOf 17 = .ok (.aload_n 0, 1) := by decide +kernel
theorem dX7_takersOf_18 : decode cX7_takersOf 18 = .ok (.getfield 46, 3) := by decide +kernel
theorem dX7_takersOf_21 : decode cX7_takersOf 21 = .ok (.iload_n 1, 1) := by decide +kernel
theorem dX7_takersOf_22 : decode cX7_takersOf 22 = .ok (.aaload, 1) := by decide +kernel
theorem dX7_takersOf_23 : decode cX7_takersOf 23 = .ok (.iload_n 2, 1) := by decide +kernel
theorem dX7_takersOf_24 : decode cX7_takersOf 24 = .ok (.iaload, 1) := by decide +kernel
theorem dX7_takersOf_25 : decode cX7_takersOf 25 = .ok (.goto 4, 3) := by decide +kernel
theorem dX7_takersOf_28 : decode cX7_takersOf 28 = .ok (.iconst 0, 1) := by decide +kernel
theorem dX7_takersOf_29 : decode cX7_takersOf 29 = .ok (.ireturn, 1) := by decide +kernel
theorem dX7_signsTakenBy_0 : decode cX7_signsTakenBy 0 = .ok (.iconst 0, 1) := by decide +kernel
theorem dX7_signsTakenBy_1 : decode cX7_signsTakenBy 1 = .ok (.istore_n 3, 1) := by decide +kernel
theorem dX7_signsTakenBy_2 : decode cX7_signsTakenBy 2 = .ok (.iconst 0, 1) := by decide +kernel
theorem dX7_signsTakenBy_3 : decode cX7_signsTakenBy 3 = .ok (.istore 4, 2) := by decide +kernel
theorem dX7_signsTakenBy_5 : decode cX7_signsTakenBy 5 = .ok (.iload 4, 2) := by decide +kernel
theorem dX7_signsTakenBy_7 : decode cX7_signsTakenBy 7 = .ok (.bipush 8, 2) := by decide +kernel
theorem dX7_signsTakenBy_9 : decode cX7_signsTakenBy 9 = .ok (.if_icmp .ge 32, 3) := by decide +kernel
theorem dX7_signsTakenBy_12 : decode cX7_signsTakenBy 12 = .ok (.iload_n 3, 1) := by decide +kernel
theorem dX7_signsTakenBy_13 : decode cX7_signsTakenBy 13 = .ok (.iload_n 2, 1) := by decide +kernel
theorem dX7_signsTakenBy_14 : decode cX7_signsTakenBy 14 = .ok (.aload_n 0, 1) := by decide +kernel
theorem dX7_signsTakenBy_15 : decode cX7_signsTakenBy 15 = .ok (.iload_n 1, 1) := by decide +kernel
theorem dX7_signsTakenBy_16 : decode cX7_signsTakenBy 16 = .ok (.iload 4, 2) := by decide +kernel
theorem dX7_signsTakenBy_18 : decode cX7_signsTakenBy 18 = .ok (.invokevirtual 59, 3) := by decide +kernel
theorem dX7_signsTakenBy_21 : decode cX7_signsTakenBy 21 = .ok (.iand, 1) := by decide +kernel
theorem dX7_signsTakenBy_22 : decode cX7_signsTakenBy 22 = .ok (.ifCond .eq 10, 3) := by decide +kernel
theorem dX7_signsTakenBy_25 : decode cX7_signsTakenBy 25 = .ok (.iconst 1, 1) := by decide +kernel
theorem dX7_signsTakenBy_26 : decode cX7_signsTakenBy 26 = .ok (.iload 4, 2) := by decide +kernel
theorem dX7_signsTakenBy_28 : decode cX7_signsTakenBy 28 = .ok (.ishl, 1) := by decide +kernel
theorem dX7_signsTakenBy_29 : decode cX7_signsTakenBy 29 = .ok (.goto 4, 3) := by decide +kernel
theorem dX7_signsTakenBy_32 : decode cX7_signsTakenBy 32 = .ok (.iconst 0, 1) := by decide +kernel
theorem dX7_signsTakenBy_33 : decode cX7_signsTakenBy 33 = .ok (.ior, 1) := by decide +kernel
theorem dX7_signsTakenBy_34 : decode cX7_signsTakenBy 34 = .ok (.istore_n 3, 1) := by decide +kernel
theorem dX7_signsTakenBy_35 : decode cX7_signsTakenBy 35 = .ok (.iinc 4 1, 3) := by decide +kernel
theorem dX7_signsTakenBy_38 : decode cX7_signsTakenBy 38 = .ok (.goto (-33), 3) := by decide +kernel
theorem dX7_signsTakenBy_41 : decode cX7_signsTakenBy 41 = .ok (.iload_n 3, 1) := by decide +kernel
theorem dX7_signsTakenBy_42 : decode cX7_signsTakenBy 42 = .ok (.ireturn, 1) := by decide +kernel
theorem dX7_standing_0 : decode cX7_standing 0 = .ok (.aload_n 0, 1) := by decide +kernel
theorem dX7_standing_1 : decode cX7_standing 1 = .ok (.iload_n 1, 1) := by decide +kernel
theorem dX7_standing_2 : decode cX7_standing 2 = .ok (.invokevirtual 63, 3) := by decide +kernel
theorem dX7_standing_5 : decode cX7_standing 5 = .ok (.istore 5, 2) := by decide +kernel
theorem dX7_standing_7 : decode cX7_standing 7 = .ok (.iconst 0, 1) := by decide +kernel
theorem dX7_standing_8 : decode cX7_standing 8 = .ok (.istore 6, 2) := by decide +kernel
theorem dX7_standing_10 : decode cX7_standing 10 = .ok (.iload_n 3, 1) := by decide +kernel
theorem dX7_standing_11 : decode cX7_standing 11 = .ok (.istore 7, 2) := by decide +kernel
theorem dX7_standing_13 : decode cX7_standing 13 = .ok (.iload 7, 2) := by decide +kernel
theorem dX7_standing_15 : decode cX7_standing 15 = .ok (.iload 4, 2) := by decide +kernel
theorem dX7_standing_17 : decode cX7_standing 17 = .ok (.if_icmp .ge 34, 3) := by decide +kernel
theorem dX7_standing_20 : decode cX7_standing 20 = .ok (.iload 5, 2) := by decide +kernel
theorem dX7_standing_22 : decode cX7_standing 22 = .ok (.aload_n 0, 1) := by decide +kernel
theorem dX7_standing_23 : decode cX7_standing 23 = .ok (.iload_n 1, 1) := by decide +kernel
theorem dX7_standing_24 : decode cX7_standing 24 = .ok (.aload_n 2, 1) := by decide +kernel
theorem dX7_standing_25 : decode cX7_standing 25 = .ok (.iload 7, 2) := by decide +kernel
theorem dX7_standing_27 : decode cX7_standing 27 = .ok (.invokevirtual 67, 3) := by decide +kernel
theorem dX7_standing_30 : decode cX7_standing 30 = .ok (.invokevirtual 59, 3) := by decide +kernel
theorem dX7_standing_33 : decode cX7_standing 33 = .ok (.iand, 1) := by decide +kernel
theorem dX7_standing_34 : decode cX7_standing 34 = .ok (.istore 6, 2) := by decide +kernel
theorem dX7_standing_36 : decode cX7_standing 36 = .ok (.aload_n 0, 1) := by decide +kernel
theorem dX7_standing_37 : decode cX7_standing 37 = .ok (.iload_n 1, 1) := by decide +kernel
theorem dX7_standing_38 : decode cX7_standing 38 = .ok (.iload 6, 2) := by decide +kernel
theorem dX7_standing_40 : decode cX7_standing 40 = .ok (.invokevirtual 72, 3) := by decide +kernel
theorem dX7_standing_43 : decode cX7_standing 43 = .ok (.istore 5, 2) := by decide +kernel
theorem dX7_standing_45 : decode cX7_standing 45 = .ok (.iinc 7 1, 3) := by decide +kernel
theorem dX7_standing_48 : decode cX7_standing 48 = .ok (.goto (-35), 3) := by decide +kernel
theorem dX7_standing_51 : decode cX7_standing 51 = .ok (.iload 6, 2) := by decide +kernel
theorem dX7_standing_53 : decode cX7_standing 53 = .ok (.ireturn, 1) := by decide +kernel
theorem dX7_winner_0 : decode cX7_winner 0 = .ok (.iconst 0, 1) := by decide +kernel
theorem dX7_winner_1 : decode cX7_winner 1 = .ok (.istore_n 3, 1) := by decide +kernel
theorem dX7_winner_2 : decode cX7_winner 2 = .ok (.iload_n 3, 1) := by decide +kernel
theorem dX7_winner_3 : decode cX7_winner 3 = .ok (.aload_n 0, 1) := by decide +kernel
theorem dX7_winner_4 : decode cX7_winner 4 = .ok (.getfield 9, 3) := by decide +kernel
theorem dX7_winner_7 : decode cX7_winner 7 = .ok (.if_icmp .ge 32, 3) := by decide +kernel
theorem dX7_winner_10 : decode cX7_winner 10 = .ok (.aload_n 0, 1) := by decide +kernel
theorem dX7_winner_11 : decode cX7_winner 11 = .ok (.getfield 15, 3) := by decide +kernel
theorem dX7_winner_14 : decode cX7_winner 14 = .ok (.iload_n 3, 1) := by decide +kernel
theorem dX7_winner_15 : decode cX7_winner 15 = .ok (.iaload, 1) := by decide +kernel
theorem dX7_winner_16 : decode cX7_winner 16 = .ok (.iload_n 1, 1) := by decide +kernel
theorem dX7_winner_17 : decode cX7_winner 17 = .ok (.if_icmp .ne 16, 3) := by decide +kernel
theorem dX7_winner_20 : decode cX7_winner 20 = .ok (.aload_n 0, 1) := by decide +kernel
theorem dX7_winner_21 : decode cX7_winner 21 = .ok (.getfield 28, 3) := by decide +kernel
theorem dX7_winner_24 : decode cX7_winner 24 = .ok (.iload_n 3, 1) := by decide +kernel
theorem dX7_winner_25 : decode cX7_winner 25 = .ok (.iaload, 1) := by decide +kernel
theorem dX7_winner_26 : decode cX7_winner 26 = .ok (.iload_n 2, 1) := by decide +kernel
theorem dX7_winner_27 : decode cX7_winner 27 = .ok (.iand, 1) := by decide +kernel
theorem dX7_winner_28 : decode cX7_winner 28 = .ok (.ifCond .eq 5, 3) := by decide +kernel
theorem dX7_winner_31 : decode cX7_winner 31 = .ok (.iload_n 3, 1) := by decide +kernel
theorem dX7_winner_32 : decode cX7_winner 32 = .ok (.ireturn, 1) := by decide +kernel
theorem dX7_winner_33 : decode cX7_winner 33 = .ok (.iinc 3 1, 3) := by decide +kernel
theorem dX7_winner_36 : decode cX7_winner 36 = .ok (.goto (-34), 3) := by decide +kernel
theorem dX7_winner_39 : decode cX7_winner 39 = .ok (.iconst (-1), 1) := by decide +kernel
theorem dX7_winner_40 : decode cX7_winner 40 = .ok (.ireturn, 1) := by decide +kernel
theorem dX7_matching_0 : decode cX7_matching 0 = .ok (.iconst 0, 1) := by decide +kernel
theorem dX7_matching_1 : decode cX7_matching 1 = .ok (.istore_n 3, 1) := by decide +kernel
theorem dX7_matching_2 : decode cX7_matching 2 = .ok (.iconst 0, 1) := by decide +kernel
theorem dX7_matching_3 : decode cX7_matching 3 = .ok (.istore 4, 2) := by decide +kernel
theorem dX7_matching_5 : decode cX7_matching 5 = .ok (.iload 4, 2) := by decide +kernel
theorem dX7_matching_7 : decode cX7_matching 7 = .ok (.aload_n 0, 1) := by decide +kernel
theorem dX7_matching_8 : decode cX7_matching 8 = .ok (.getfield 9, 3) := by decide +kernel
theorem dX7_matching_11 : decode cX7_matching 11 = .ok (.if_icmp .ge 43, 3) := by decide +kernel
theorem dX7_matching_14 : decode cX7_matching 14 = .ok (.iload_n 3, 1) := by decide +kernel
theorem dX7_matching_15 : decode cX7_matching 15 = .ok (.aload_n 0, 1) := by decide +kernel
theorem dX7_matching_16 : decode cX7_matching 16 = .ok (.getfield 15, 3) := by decide +kernel
theorem dX7_matching_19 : decode cX7_matching 19 = .ok (.iload 4, 2) := by decide +kernel
theorem dX7_matching_21 : decode cX7_matching 21 = .ok (.iaload, 1) := by decide +kernel
theorem dX7_matching_22 : decode cX7_matching 22 = .ok (.iload_n 1, 1) := by decide +kernel
theorem dX7_matching_23 : decode cX7_matching 23 = .ok (.if_icmp .ne 22, 3) := by decide +kernel
theorem dX7_matching_26 : decode cX7_matching 26 = .ok (.aload_n 0, 1) := by decide +kernel
theorem dX7_matching_27 : decode cX7_matching 27 = .ok (.getfield 28, 3) := by decide +kernel
theorem dX7_matching_30 : decode cX7_matching 30 = .ok (.iload 4, 2) := by decide +kernel
theorem dX7_matching_32 : decode cX7_matching 32 = .ok (.iaload, 1) := by decide +kernel
theorem dX7_matching_33 : decode cX7_matching 33 = .ok (.iload_n 2, 1) := by decide +kernel
theorem dX7_matching_34 : decode cX7_matching 34 = .ok (.iand, 1) := by decide +kernel
theorem dX7_matching_35 : decode cX7_matching 35 = .ok (.ifCond .eq 10, 3) := by decide +kernel
theorem dX7_matching_38 : decode cX7_matching 38 = .ok (.iconst 1, 1) := by decide +kernel
theorem dX7_matching_39 : decode cX7_matching 39 = .ok (.iload 4, 2) := by decide +kernel
theorem dX7_matching_41 : decode cX7_matching 41 = .ok (.ishl, 1) := by decide +kernel
theorem dX7_matching_42 : decode cX7_matching 42 = .ok (.goto 4, 3) := by decide +kernel
theorem dX7_matching_45 : decode cX7_matching 45 = .ok (.iconst 0, 1) := by decide +kernel
theorem dX7_matching_46 : decode cX7_matching 46 = .ok (.ior, 1) := by decide +kernel
theorem dX7_matching_47 : decode cX7_matching 47 = .ok (.istore_n 3, 1) := by decide +kernel
theorem dX7_matching_48 : decode cX7_matching 48 = .ok (.iinc 4 1, 3) := by decide +kernel
theorem dX7_matching_51 : decode cX7_matching 51 = .ok (.goto (-46), 3) := by decide +kernel
theorem dX7_matching_54 : decode cX7_matching 54 = .ok (.iload_n 3, 1) := by decide +kernel
theorem dX7_matching_55 : decode cX7_matching 55 = .ok (.ireturn, 1) := by decide +kernel
theorem dX7_matchingNothing_0 : decode cX7_matchingNothing 0 = .ok (.iconst 0, 1) := by decide +kernel
theorem dX7_matchingNothing_1 : decode cX7_matchingNothing 1 = .ok (.istore_n 2, 1) := by decide +kernel
theorem dX7_matchingNothing_2 : decode cX7_matchingNothing 2 = .ok (.iconst 0, 1) := by decide +kernel
theorem dX7_matchingNothing_3 : decode cX7_matchingNothing 3 = .ok (.istore_n 3, 1) := by decide +kernel
theorem dX7_matchingNothing_4 : decode cX7_matchingNothing 4 = .ok (.iload_n 3, 1) := by decide +kernel
theorem dX7_matchingNothing_5 : decode cX7_matchingNothing 5 = .ok (.aload_n 0, 1) := by decide +kernel
theorem dX7_matchingNothing_6 : decode cX7_matchingNothing 6 = .ok (.getfield 9, 3) := by decide +kernel
theorem dX7_matchingNothing_9 : decode cX7_matchingNothing 9 = .ok (.if_icmp .ge 38, 3) := by decide +kernel
theorem dX7_matchingNothing_12 : decode cX7_matchingNothing 12 = .ok (.iload_n 2, 1) := by decide +kernel
theorem dX7_matchingNothing_13 : decode cX7_matchingNothing 13 = .ok (.aload_n 0, 1) := by decide +kernel
theorem dX7_matchingNothing_14 : decode cX7_matchingNothing 14 = .ok (.getfield 15, 3) := by decide +kernel
theorem dX7_matchingNothing_17 : decode cX7_matchingNothing 17 = .ok (.iload_n 3, 1) := by decide +kernel
theorem dX7_matchingNothing_18 : decode cX7_matchingNothing 18 = .ok (.iaload, 1) := by decide +kernel
theorem dX7_matchingNothing_19 : decode cX7_matchingNothing 19 = .ok (.iload_n 1, 1) := by decide +kernel
theorem dX7_matchingNothing_20 : decode cX7_matchingNothing 20 = .ok (.if_icmp .ne 18, 3) := by decide +kernel
theorem dX7_matchingNothing_23 : decode cX7_matchingNothing 23 = .ok (.aload_n 0, 1) := by decide +kernel
theorem dX7_matchingNothing_24 : decode cX7_matchingNothing 24 = .ok (.getfield 31, 3) := by decide +kernel
theorem dX7_matchingNothing_27 : decode cX7_matchingNothing 27 = .ok (.iload_n 3, 1) := by decide +kernel
theorem dX7_matchingNothing_28 : decode cX7_matchingNothing 28 = .ok (.baload, 1) := by decide +kernel
theorem dX7_matchingNothing_29 : decode cX7_matchingNothing 29 = .ok (.ifCond .eq 9, 3) := by decide +kernel
theorem dX7_matchingNothing_32 : decode cX7_matchingNothing 32 = .ok (.iconst 1, 1) := by decide +kernel
theorem dX7_matchingNothing_33 : decode cX7_matchingNothing 33 = .ok (.iload_n 3, 1) := by decide +kernel
theorem dX7_matchingNothing_34 : decode cX7_matchingNothing 34 = .ok (.ishl, 1) := by decide +kernel
theorem dX7_matchingNothing_35 : decode cX7_matchingNothing 35 = .ok (.goto 4, 3) := by decide +kernel
theorem dX7_matchingNothing_38 : decode cX7_matchingNothing 38 = .ok (.iconst 0, 1) := by decide +kernel
theorem dX7_matchingNothing_39 : decode cX7_matchingNothing 39 = .ok (.ior, 1) := by decide +kernel
theorem dX7_matchingNothing_40 : decode cX7_matchingNothing 40 = .ok (.istore_n 2, 1) := by decide +kernel
theorem dX7_matchingNothing_41 : decode cX7_matchingNothing 41 = .ok (.iinc 3 1, 3) := by decide +kernel
theorem dX7_matchingNothing_44 : decode cX7_matchingNothing 44 = .ok (.goto (-40), 3) := by decide +kernel
theorem dX7_matchingNothing_47 : decode cX7_matchingNothing 47 = .ok (.iload_n 2, 1) := by decide +kernel
theorem dX7_matchingNothing_48 : decode cX7_matchingNothing 48 = .ok (.ireturn, 1) := by decide +kernel
theorem dX7_lettersOfAll_0 : decode cX7_lettersOfAll 0 = .ok (.iconst 0, 1) := by decide +kernel
theorem dX7_lettersOfAll_1 : decode cX7_lettersOfAll 1 = .ok (.istore_n 1, 1) := by decide +kernel
theorem dX7_lettersOfAll_2 : decode cX7_lettersOfAll 2 = .ok (.iconst 0, 1) := by decide +kernel
theorem dX7_lettersOfAll_3 : decode cX7_lettersOfAll 3 = .ok (.istore_n 2, 1) := by decide +kernel
theorem dX7_lettersOfAll_4 : decode cX7_lettersOfAll 4 = .ok (.iload_n 2, 1) := by decide +kernel
theorem dX7_lettersOfAll_5 : decode cX7_lettersOfAll 5 = .ok (.aload_n 0, 1) := by decide +kernel
theorem dX7_lettersOfAll_6 : decode cX7_lettersOfAll 6 = .ok (.getfield 9, 3) := by decide +kernel
theorem dX7_lettersOfAll_9 : decode cX7_lettersOfAll 9 = .ok (.if_icmp .ge 18, 3) := by decide +kernel
theorem dX7_lettersOfAll_12 : decode cX7_lettersOfAll 12 = .ok (.iload_n 1, 1) := by decide +kernel
theorem dX7_lettersOfAll_13 : decode cX7_lettersOfAll 13 = .ok (.aload_n 0, 1) := by decide +kernel
theorem dX7_lettersOfAll_14 : decode cX7_lettersOfAll 14 = .ok (.getfield 19, 3) := by decide +kernel
theorem dX7_lettersOfAll_17 : decode cX7_lettersOfAll 17 = .ok (.iload_n 2, 1) := by decide +kernel
theorem dX7_lettersOfAll_18 : decode cX7_lettersOfAll 18 = .ok (.iaload, 1) := by decide +kernel
theorem dX7_lettersOfAll_19 : decode cX7_lettersOfAll 19 = .ok (.iadd, 1) := by decide +kernel
theorem dX7_lettersOfAll_20 : decode cX7_lettersOfAll 20 = .ok (.istore_n 1, 1) := by decide +kernel
theorem dX7_lettersOfAll_21 : decode cX7_lettersOfAll 21 = .ok (.iinc 2 1, 3) := by decide +kernel
theorem dX7_lettersOfAll_24 : decode cX7_lettersOfAll 24 = .ok (.goto (-20), 3) := by decide +kernel
theorem dX7_lettersOfAll_27 : decode cX7_lettersOfAll 27 = .ok (.iload_n 1, 1) := by decide +kernel
theorem dX7_lettersOfAll_28 : decode cX7_lettersOfAll 28 = .ok (.ireturn, 1) := by decide +kernel
theorem dX7_modesWithRules_0 : decode cX7_modesWithRules 0 = .ok (.iconst 0, 1) := by decide +kernel
theorem dX7_modesWithRules_1 : decode cX7_modesWithRules 1 = .ok (.istore_n 1, 1) := by decide +kernel
theorem dX7_modesWithRules_2 : decode cX7_modesWithRules 2 = .ok (.iconst 0, 1) := by decide +kernel
theorem dX7_modesWithRules_3 : decode cX7_modesWithRules 3 = .ok (.istore_n 2, 1) := by decide +kernel
theorem dX7_modesWithRules_4 : decode cX7_modesWithRules 4 = .ok (.iload_n 2, 1) := by decide +kernel
theorem dX7_modesWithRules_5 : decode cX7_modesWithRules 5 = .ok (.aload_n 0, 1) := by decide +kernel
theorem dX7_modesWithRules_6 : decode cX7_modesWithRules 6 = .ok (.getfield 9, 3) := by decide +kernel
theorem dX7_modesWithRules_9 : decode cX7_modesWithRules 9 = .ok (.if_icmp .ge 20, 3) := by decide +kernel
theorem dX7_modesWithRules_12 : decode cX7_modesWithRules 12 = .ok (.iload_n 1, 1) := by decide +kernel
theorem dX7_modesWithRules_13 : decode cX7_modesWithRules 13 = .ok (.iconst 1, 1) := by decide +kernel
theorem dX7_modesWithRules_14 : decode cX7_modesWithRules 14 = .ok (.aload_n 0, 1) := by decide +kernel
theorem dX7_modesWithRules_15 : decode cX7_modesWithRules 15 = .ok (.getfield 15, 3) := by decide +kernel
theorem dX7_modesWithRules_18 : decode cX7_modesWithRules 18 = .ok (.iload_n 2, 1) := by decide +kernel
theorem dX7_modesWithRules_19 : decode cX7_modesWithRules 19 = .ok (.iaload, 1) := by decide +kernel
theorem dX7_modesWithRules_20 : decode cX7_modesWithRules 20 = .ok (.ishl, 1) := by decide +kernel
theorem dX7_modesWithRules_21 : decode cX7_modesWithRules 21 = .ok (.ior, 1) := by decide +kernel
theorem dX7_modesWithRules_22 : decode cX7_modesWithRules 22 = .ok (.istore_n 1, 1) := by decide +kernel
theorem dX7_modesWithRules_23 : decode cX7_modesWithRules 23 = .ok (.iinc 2 1, 3) := by decide +kernel
theorem dX7_modesWithRules_26 : decode cX7_modesWithRules 26 = .ok (.goto (-22), 3) := by decide +kernel
theorem dX7_modesWithRules_29 : decode cX7_modesWithRules 29 = .ok (.iload_n 1, 1) := by decide +kernel
theorem dX7_modesWithRules_30 : decode cX7_modesWithRules 30 = .ok (.ireturn, 1) := by decide +kernel
theorem dX8_init_0 : decode cX8_init 0 = .ok (.aload_n 0, 1) := by decide +kernel
theorem dX8_init_1 : decode cX8_init 1 = .ok (.invokespecial 3, 3) := by decide +kernel
theorem dX8_init_4 : decode cX8_init 4 = .ok (.aload_n 0, 1) := by decide +kernel
theorem dX8_init_5 : decode cX8_init 5 = .ok (.sipush 1024, 3) := by decide +kernel
theorem dX8_init_8 : decode cX8_init 8 = .ok (.newarray .int, 2) := by decide +kernel
theorem dX8_init_10 : decode cX8_init 10 = .ok (.putfield 9, 3) := by decide +kernel
theorem dX8_init_13 : decode cX8_init 13 = .ok (.aload_n 0, 1) := by decide +kernel
theorem dX8_init_14 : decode cX8_init 14 = .ok (.sipush 1024, 3) := by decide +kernel
theorem dX8_init_17 : decode cX8_init 17 = .ok (.newarray .int, 2) := by decide +kernel
theorem dX8_init_19 : decode cX8_init 19 = .ok (.putfield 15, 3) := by decide +kernel
theorem dX8_init_22 : decode cX8_init 22 = .ok (.aload_n 0, 1) := by decide +kernel
theorem dX8_init_23 : decode cX8_init 23 = .ok (.sipush 1024, 3) := by decide +kernel
theorem dX8_init_26 : decode cX8_init 26 = .ok (.newarray .int, 2) := by decide +kernel
theorem dX8_init_28 : decode cX8_init 28 = .ok (.putfield 18, 3) := by decide +kernel
theorem dX8_init_31 : decode cX8_init 31 = .ok (.aload_n 0, 1) := by decide +kernel
theorem dX8_init_32 : decode cX8_init 32 = .ok (.iconst 0, 1) := by decide +kernel
theorem dX8_init_33 : decode cX8_init 33 = .ok (.putfield 21, 3) := by decide +kernel
theorem dX8_init_36 : decode cX8_init 36 = .ok (.return_, 1) := by decide +kernel
theorem dX8_explore_0 : decode cX8_explore 0 = .ok (.aload_n 0, 1) := by decide +kernel
theorem dX8_explore_1 : decode cX8_explore 1 = .ok (.getfield 15, 3) := by decide +kernel
theorem dX8_explore_4 : decode cX8_explore 4 = .ok (.iconst (-1), 1) := by decide +kernel
theorem dX8_explore_5 : decode cX8_explore 5 = .ok (.invokestatic 25, 3) := by decide +kernel
theorem dX8_explore_8 : decode cX8_explore 8 = .ok (.aload_n 0, 1) := by decide +kernel
theorem dX8_explore_9 : decode cX8_explore 9 = .ok (.iconst 0, 1) := by decide +kernel
theorem dX8_explore_10 : decode cX8_explore 10 = .ok (.putfield 21, 3) := by decide +kernel
theorem dX8_explore_13 : decode cX8_explore 13 = .ok (.aload_n 0, 1) := by decide +kernel
theorem dX8_explore_14 : decode cX8_explore 14 = .ok (.aload_n 1, 1) := by decide +kernel
theorem dX8_explore_15 : decode cX8_explore 15 = .ok (.iload_n 2, 1) := by decide +kernel
theorem dX8_explore_16 : decode cX8_explore 16 = .ok (.iconst 0, 1) := by decide +kernel
theorem dX8_explore_17 : decode cX8_explore 17 = .ok (.aload_n 1, 1) := by decide +kernel
theorem dX8_explore_18 : decode cX8_explore 18 = .ok (.iload_n 2, 1) := by decide +kernel
theorem dX8_explore_19 : decode cX8_explore 19 = .ok (.invokevirtual 31, 3) := by decide +kernel
theorem dX8_explore_22 : decode cX8_explore 22 = .ok (.invokevirtual 37, 3) := by decide +kernel
theorem dX8_explore_25 : decode cX8_explore 25 = .ok (.iconst 0, 1) := by decide +kernel
theorem dX8_explore_26 : decode cX8_explore 26 = .ok (.istore_n 3, 1) := by decide +kernel
theorem dX8_explore_27 : decode cX8_explore 27 = .ok (.iload_n 3, 1) := by decide +kernel
theorem dX8_explore_28 : decode cX8_explore 28 = .ok (.aload_n 0, 1) := by decide +kernel
theorem dX8_explore_29 : decode cX8_explore 29 = .ok (.getfield 21, 3) := by decide +kernel
theorem dX8_explore_32 : decode cX8_explore 32 = .ok (.if_icmp .ge 39, 3) := by decide +kernel
theorem dX8_explore_35 : decode cX8_explore 35 = .ok (.iload_n 3, 1) := by decide +kernel
theorem dX8_explore_36 : decode cX8_explore 36 = .ok (.sipush 1024, 3) := by decide +kernel
theorem dX8_explore_39 : decode cX8_explore 39 = .ok (.if_icmp .ge 32, 3) := by decide +kernel
theorem dX8_explore_42 : decode cX8_explore 42 = .ok (.aload_n 0, 1) := by decide +kernel
theorem dX8_explore_43 : decode cX8_explore 43 = .ok (.aload_n 1, 1) := by decide +kernel
theorem dX8_explore_44 : decode cX8_explore 44 = .ok (.iload_n 2, 1) := by decide +kernel
theorem dX8_explore_45 : decode cX8_explore 45 = .ok (.aload_n 0, 1) := by decide +kernel
theorem dX8_explore_46 : decode cX8_explore 46 = .ok (.getfield 9, 3) := by decide +kernel
theorem dX8_explore_49 : decode cX8_explore 49 = .ok (.iload_n 3, 1) := by decide +kernel
theorem dX8_explore_50 : decode cX8_explore 50 = .ok (.iaload, 1) := by decide +kernel
theorem dX8_explore_51 : decode cX8_explore 51 = .ok (.aload_n 1, 1) := by decide +kernel
theorem dX8_explore_52 : decode cX8_explore 52 = .ok (.iload_n 2, 1) := by decide +kernel
theorem dX8_explore_53 : decode cX8_explore 53 = .ok (.aload_n 0, 1) := by decide +kernel
theorem dX8_explore_54 : decode cX8_explore 54 = .ok (.getfield 9, 3) := by decide +kernel
theorem dX8_explore_57 : decode cX8_explore 57 = .ok (.iload_n 3, 1) := by decide +kernel
theorem dX8_explore_58 : decode cX8_explore 58 = .ok (.iaload, 1) := by decide +kernel
theorem dX8_explore_59 : decode cX8_explore 59 = .ok (.invokevirtual 41, 3) := by decide +kernel
theorem dX8_explore_62 : decode cX8_explore 62 = .ok (.invokevirtual 37, 3) := by decide +kernel
theorem dX8_explore_65 : decode cX8_explore 65 = .ok (.iinc 3 1, 3) := by decide +kernel
theorem dX8_explore_68 : decode cX8_explore 68 = .ok (.goto (-41), 3) := by decide +kernel
theorem dX8_explore_71 : decode cX8_explore 71 = .ok (.return_, 1) := by decide +kernel
theorem dX8_trace_0 : decode cX8_trace 0 = .ok (.iconst 0, 1) := by decide +kernel
theorem dX8_trace_1 : decode cX8_trace 1 = .ok (.istore_n 2, 1) := by decide +kernel
theorem dX8_trace_2 : decode cX8_trace 2 = .ok (.iload_n 1, 1) := by decide +kernel
theorem dX8_trace_3 : decode cX8_trace 3 = .ok (.istore_n 3, 1) := by decide +kernel
theorem dX8_trace_4 : decode cX8_trace 4 = .ok (.iconst 0, 1) := by decide +kernel
theorem dX8_trace_5 : decode cX8_trace 5 = .ok (.istore 4, 2) := by decide +kernel
theorem dX8_trace_7 : decode cX8_trace 7 = .ok (.iload 4, 2) := by decide +kernel
theorem dX8_trace_9 : decode cX8_trace 9 = .ok (.sipush 1024, 3) := by decide +kernel
theorem dX8_trace_12 : decode cX8_trace 12 = .ok (.if_icmp .ge 50, 3) := by decide +kernel
theorem dX8_trace_15 : decode cX8_trace 15 = .ok (.iload_n 3, 1) := by decide +kernel
theorem dX8_trace_16 : decode cX8_trace 16 = .ok (.ifCond .le 46, 3) := by decide +kernel
theorem dX8_trace_19 : decode cX8_trace 19 = .ok (.iload_n 3, 1) := by decide +kernel
theorem dX8_trace_20 : decode cX8_trace 20 = .ok (.sipush 1024, 3) := by decide +kernel
theorem dX8_trace_23 : decode cX8_trace 23 = .ok (.if_icmp .ge 39, 3) := by decide +kernel
theorem dX8_trace_26 : decode cX8_trace 26 = .ok (.aload_n 0, 1) := by decide +kernel
theorem dX8_trace_27 : decode cX8_trace 27 = .ok (.getfield 18, 3) := by decide +kernel
theorem dX8_trace_30 : decode cX8_trace 30 = .ok (.iload 4, 2) := by decide +kernel
theorem dX8_trace_32 : decode cX8_trace 32 = .ok (.aload_n 0, 1) := by decide +kernel
theorem dX8_trace_33 : decode cX8_trace 33 = .ok (.getfield 15, 3) := by decide +kernel
theorem dX8_trace_36 : decode cX8_trace 36 = .ok (.iload_n 3, 1) := by decide +kernel
theorem dX8_trace_37 : decode cX8_trace 37 = .ok (.iaload, 1) := by decide +kernel
theorem dX8_trace_38 : decode cX8_trace 38 = .ok (.bipush 7, 2) := by decide +kernel
theorem dX8_trace_40 : decode cX8_trace 40 = .ok (.iand, 1) := by decide +kernel
theorem dX8_trace_41 : decode cX8_trace 41 = .ok (.iastore, 1) := by decide +kernel
theorem dX8_trace_42 : decode cX8_trace 42 = .ok (.aload_n 0, 1) := by decide +kernel
theorem dX8_trace_43 : decode cX8_trace 43 = .ok (.getfield 15, 3) := by decide +kernel
theorem dX8_trace_46 : decode cX8_trace 46 = .ok (.iload_n 3, 1) := by decide +kernel
theorem dX8_trace_47 : decode cX8_trace 47 = .ok (.iaload, 1) := by decide +kernel
theorem dX8_trace_48 : decode cX8_trace 48 = .ok (.iconst 3, 1) := by decide +kernel
theorem dX8_trace_49 : decode cX8_trace 49 = .ok (.ishr, 1) := by decide +kernel
theorem dX8_trace_50 : decode cX8_trace 50 = .ok (.istore_n 3, 1) := by decide +kernel
theorem dX8_trace_51 : decode cX8_trace 51 = .ok (.iload 4, 2) := by decide +kernel
theorem dX8_trace_53 : decode cX8_trace 53 = .ok (.iconst 1, 1) := by decide +kernel
theorem dX8_trace_54 : decode cX8_trace 54 = .ok (.iadd, 1) := by decide +kernel
theorem dX8_trace_55 : decode cX8_trace 55 = .ok (.istore_n 2, 1) := by decide +kernel
theorem dX8_trace_56 : decode cX8_trace 56 = .ok (.iinc 4 1, 3) := by decide +kernel
theorem dX8_trace_59 : decode cX8_trace 59 = .ok (.goto (-52), 3) := by decide +kernel
theorem dX8_trace_62 : decode cX8_trace 62 = .ok (.iload_n 2, 1) := by decide +kernel
theorem dX8_trace_63 : decode cX8_trace 63 = .ok (.ireturn, 1) := by decide +kernel
theorem dX8_spread_0 : decode cX8_spread 0 = .ok (.iconst 0, 1) := by decide +kernel
theorem dX8_spread_1 : decode cX8_spread 1 = .ok (.istore 5, 2) := by decide +kernel
theorem dX8_spread_3 : decode cX8_spread 3 = .ok (.iload 5, 2) := by decide +kernel
theorem dX8_spread_5 : decode cX8_spread 5 = .ok (.bipush 8, 2) := by decide +kernel
theorem dX8_spread_7 : decode cX8_spread 7 = .ok (.if_icmp .ge 101, 3) := by decide +kernel
theorem dX8_spread_10 : decode cX8_spread 10 = .ok (.iload 4, 2) := by decide +kernel
theorem dX8_spread_12 : decode cX8_spread 12 = .ok (.aload_n 1, 1) := by decide +kernel
theorem dX8_spread_13 : decode cX8_spread 13 = .ok (.iload_n 2, 1) := by decide +kernel
theorem dX8_spread_14 : decode cX8_spread 14 = .ok (.iload 5, 2) := by decide +kernel
theorem dX8_spread_16 : decode cX8_spread 16 = .ok (.invokevirtual 45, 3) := by decide +kernel
theorem dX8_spread_19 : decode cX8_spread 19 = .ok (.iand, 1) := by decide +kernel
theorem dX8_spread_20 : decode cX8_spread 20 = .ok (.istore 6, 2) := by decide +kernel
theorem dX8_spread_22 : decode cX8_spread 22 = .ok (.iload 6, 2) := by decide +kernel
theorem dX8_spread_24 : decode cX8_spread 24 = .ok (.ifCond .le 26, 3) := by decide +kernel
theorem dX8_spread_27 : decode cX8_spread 27 = .ok (.iload 6, 2) := by decide +kernel
theorem dX8_spread_29 : decode cX8_spread 29 = .ok (.sipush 1024, 3) := by decide +kernel
theorem dX8_spread_32 : decode cX8_spread 32 = .ok (.if_icmp .ge 18, 3) := by decide +kernel
theorem dX8_spread_35 : decode cX8_spread 35 = .ok (.aload_n 0, 1) := by decide +kernel
theorem dX8_spread_36 : decode cX8_spread 36 = .ok (.getfield 15, 3) := by decide +kernel
theorem dX8_spread_39 : decode cX8_spread 39 = .ok (.iload 6, 2) := by decide +kernel
theorem dX8_spread_41 : decode cX8_spread 41 = .ok (.iaload, 1) := by decide +kernel
theorem dX8_spread_42 : decode cX8_spread 42 = .ok (.iconst (-1), 1) := by decide +kernel
theorem dX8_spread_43 : decode cX8_spread 43 = .ok (.if_icmp .ne 7, 3) := by decide +kernel
theorem dX8_spread_46 : decode cX8_spread 46 = .ok (.iconst 1, 1) := by decide +kernel
theorem dX8_spread_47 : decode cX8_spread 47 = .ok (.goto 4, 3) := by decide +kernel
theorem dX8_spread_50 : decode cX8_spread 50 = .ok (.iconst 0, 1) := by decide +kernel
theorem dX8_spread_51 : decode cX8_spread 51 = .ok (.istore 7, 2) := by decide +kernel
theorem dX8_spread_53 : decode cX8_spread 53 = .ok (.iload 7, 2) := by decide +kernel
theorem dX8_spread_55 : decode cX8_spread 55 = .ok (.ifCond .eq 47, 3) := by decide +kernel
theorem dX8_spread_58 : decode cX8_spread 58 = .ok (.aload_n 0, 1) := by decide +kernel
theorem dX8_spread_59 : decode cX8_spread 59 = .ok (.getfield 21, 3) := by decide +kernel
theorem dX8_spread_62 : decode cX8_spread 62 = .ok (.sipush 1024, 3) := by decide +kernel
theorem dX8_spread_65 : decode cX8_spread 65 = .ok (.if_icmp .ge 37, 3) := by decide +kernel
theorem dX8_spread_68 : decode cX8_spread 68 = .ok (.aload_n 0, 1) := by decide +kernel
theorem dX8_spread_69 : decode cX8_spread 69 = .ok (.getfield 15, 3) := by decide +kernel
theorem dX8_spread_72 : decode cX8_spread 72 = .ok (.iload 6, 2) := by decide +kernel
theorem dX8_spread_74 : decode cX8_spread 74 = .ok (.iload_n 3, 1) := by decide +kernel
theorem dX8_spread_75 : decode cX8_spread 75 = .ok (.iconst 3, 1) := by decide +kernel
theorem dX8_spread_76 : decode cX8_spread 76 = .ok (.ishl, 1) := by decide +kernel
theorem dX8_spread_77 : decode cX8_spread 77 = .ok (.iload 5, 2) := by decide +kernel
theorem dX8_spread_79 : decode cX8_spread 79 = .ok (.ior, 1) := by decide +kernel
theorem dX8_spread_80 : decode cX8_spread 80 = .ok (.iastore, 1) := by decide +kernel
theorem dX8_spread_81 : decode cX8_spread 81 = .ok (.aload_n 0, 1) := by decide +kernel
theorem dX8_spread_82 : decode cX8_spread 82 = .ok (.getfield 9, 3) := by decide +kernel
theorem dX8_spread_85 : decode cX8_spread 85 = .ok (.aload_n 0, 1) := by decide +kernel
theorem dX8_spread_86 : decode cX8_spread 86 = .ok (.getfield 21, 3) := by decide +kernel
theorem dX8_spread_89 : decode cX8_spread 89 = .ok (.iload 6, 2) := by decide +kernel
theorem dX8_spread_91 : decode cX8_spread 91 = .ok (.iastore, 1) := by decide +kernel
theorem dX8_spread_92 : decode cX8_spread 92 = .ok (.aload_n 0, 1) := by decide +kernel
theorem dX8_spread_93 : decode cX8_spread 93 = .ok (.dup, 1) := by decide +kernel
theorem dX8_spread_94 : decode cX8_spread 94 = .ok (.getfield 21, 3) := by decide +kernel
theorem dX8_spread_97 : decode cX8_spread 97 = .ok (.iconst 1, 1) := by decide +kernel
theorem dX8_spread_98 : decode cX8_spread 98 = .ok (.iadd, 1) := by decide +kernel
theorem dX8_spread_99 : decode cX8_spread 99 = .ok (.putfield 21, 3) := by decide +kernel
