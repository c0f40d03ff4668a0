theorem dX8_spread_102 : decode cX8_spread 102 = .ok (.iinc 5 1, 3) := by decide +kernel
theorem dX8_spread_105 : decode cX8_spread 105 = .ok (.goto (-102), 3) := by decide +kernel
theorem dX8_spread_108 : decode cX8_spread 108 = .ok (.return_, 1) := by decide +kernel
theorem dX9_init_0 : decode cX9_init 0 = .ok (.aload_n 0, 1) := by decide +kernel
theorem dX9_init_1 : decode cX9_init 1 = .ok (.invokespecial 3, 3) := by decide +kernel
theorem dX9_init_4 : decode cX9_init 4 = .ok (.aload_n 0, 1) := by decide +kernel
theorem dX9_init_5 : decode cX9_init 5 = .ok (.bipush 25, 2) := by decide +kernel
theorem dX9_init_7 : decode cX9_init 7 = .ok (.newarray .int, 2) := by decide +kernel
theorem dX9_init_9 : decode cX9_init 9 = .ok (.putfield 9, 3) := by decide +kernel
theorem dX9_init_12 : decode cX9_init 12 = .ok (.aload_n 0, 1) := by decide +kernel
theorem dX9_init_13 : decode cX9_init 13 = .ok (.bipush 25, 2) := by decide +kernel
theorem dX9_init_15 : decode cX9_init 15 = .ok (.newarray .int, 2) := by decide +kernel
theorem dX9_init_17 : decode cX9_init 17 = .ok (.putfield 15, 3) := by decide +kernel
theorem dX9_init_20 : decode cX9_init 20 = .ok (.aload_n 0, 1) := by decide +kernel
theorem dX9_init_21 : decode cX9_init 21 = .ok (.bipush 25, 2) := by decide +kernel
theorem dX9_init_23 : decode cX9_init 23 = .ok (.newarray .int, 2) := by decide +kernel
theorem dX9_init_25 : decode cX9_init 25 = .ok (.putfield 18, 3) := by decide +kernel
theorem dX9_init_28 : decode cX9_init 28 = .ok (.return_, 1) := by decide +kernel
theorem dX9_make_0 : decode cX9_make 0 = .ok (.iload_n 3, 1) := by decide +kernel
theorem dX9_make_1 : decode cX9_make 1 = .ok (.ifCond .lt 10, 3) := by decide +kernel
theorem dX9_make_4 : decode cX9_make 4 = .ok (.iload 4, 2) := by decide +kernel
theorem dX9_make_6 : decode cX9_make 6 = .ok (.bipush 24, 2) := by decide +kernel
theorem dX9_make_8 : decode cX9_make 8 = .ok (.if_icmp .le 4, 3) := by decide +kernel
theorem dX9_make_11 : decode cX9_make 11 = .ok (.return_, 1) := by decide +kernel
theorem dX9_make_12 : decode cX9_make 12 = .ok (.iload 4, 2) := by decide +kernel
theorem dX9_make_14 : decode cX9_make 14 = .ok (.istore 5, 2) := by decide +kernel
theorem dX9_make_16 : decode cX9_make 16 = .ok (.iload 5, 2) := by decide +kernel
theorem dX9_make_18 : decode cX9_make 18 = .ok (.iload_n 3, 1) := by decide +kernel
theorem dX9_make_19 : decode cX9_make 19 = .ok (.if_icmp .lt 105, 3) := by decide +kernel
theorem dX9_make_22 : decode cX9_make 22 = .ok (.aload_n 0, 1) := by decide +kernel
theorem dX9_make_23 : decode cX9_make 23 = .ok (.getfield 9, 3) := by decide +kernel
theorem dX9_make_26 : decode cX9_make 26 = .ok (.iload 5, 2) := by decide +kernel
theorem dX9_make_28 : decode cX9_make 28 = .ok (.aload_n 1, 1) := by decide +kernel
theorem dX9_make_29 : decode cX9_make 29 = .ok (.aload_n 2, 1) := by decide +kernel
theorem dX9_make_30 : decode cX9_make 30 = .ok (.iload 5, 2) := by decide +kernel
theorem dX9_make_32 : decode cX9_make 32 = .ok (.iload 4, 2) := by decide +kernel
theorem dX9_make_34 : decode cX9_make 34 = .ok (.invokestatic 21, 3) := by decide +kernel
theorem dX9_make_37 : decode cX9_make 37 = .ok (.iastore, 1) := by decide +kernel
theorem dX9_make_38 : decode cX9_make 38 = .ok (.aload_n 0, 1) := by decide +kernel
theorem dX9_make_39 : decode cX9_make 39 = .ok (.getfield 15, 3) := by decide +kernel
theorem dX9_make_42 : decode cX9_make 42 = .ok (.iload 5, 2) := by decide +kernel
theorem dX9_make_44 : decode cX9_make 44 = .ok (.iload 5, 2) := by decide +kernel
theorem dX9_make_46 : decode cX9_make 46 = .ok (.iload 4, 2) := by decide +kernel
theorem dX9_make_48 : decode cX9_make 48 = .ok (.if_icmp .ne 7, 3) := by decide +kernel
theorem dX9_make_51 : decode cX9_make 51 = .ok (.iconst 1, 1) := by decide +kernel
theorem dX9_make_52 : decode cX9_make 52 = .ok (.goto 4, 3) := by decide +kernel
theorem dX9_make_55 : decode cX9_make 55 = .ok (.iconst 0, 1) := by decide +kernel
theorem dX9_make_56 : decode cX9_make 56 = .ok (.iastore, 1) := by decide +kernel
theorem dX9_make_57 : decode cX9_make 57 = .ok (.aload_n 0, 1) := by decide +kernel
theorem dX9_make_58 : decode cX9_make 58 = .ok (.getfield 18, 3) := by decide +kernel
theorem dX9_make_61 : decode cX9_make 61 = .ok (.iload 5, 2) := by decide +kernel
theorem dX9_make_63 : decode cX9_make 63 = .ok (.iload 5, 2) := by decide +kernel
theorem dX9_make_65 : decode cX9_make 65 = .ok (.iload 4, 2) := by decide +kernel
theorem dX9_make_67 : decode cX9_make 67 = .ok (.if_icmp .ne 7, 3) := by decide +kernel
theorem dX9_make_70 : decode cX9_make 70 = .ok (.iconst 0, 1) := by decide +kernel
theorem dX9_make_71 : decode cX9_make 71 = .ok (.goto 4, 3) := by decide +kernel
theorem dX9_make_74 : decode cX9_make 74 = .ok (.iconst (-1), 1) := by decide +kernel
theorem dX9_make_75 : decode cX9_make 75 = .ok (.iastore, 1) := by decide +kernel
theorem dX9_make_76 : decode cX9_make 76 = .ok (.iload 5, 2) := by decide +kernel
theorem dX9_make_78 : decode cX9_make 78 = .ok (.iconst 1, 1) := by decide +kernel
theorem dX9_make_79 : decode cX9_make 79 = .ok (.iadd, 1) := by decide +kernel
theorem dX9_make_80 : decode cX9_make 80 = .ok (.istore 6, 2) := by decide +kernel
theorem dX9_make_82 : decode cX9_make 82 = .ok (.iload 6, 2) := by decide +kernel
theorem dX9_make_84 : decode cX9_make 84 = .ok (.iload 4, 2) := by decide +kernel
theorem dX9_make_86 : decode cX9_make 86 = .ok (.if_icmp .gt 32, 3) := by decide +kernel
theorem dX9_make_89 : decode cX9_make 89 = .ok (.aload_n 0, 1) := by decide +kernel
theorem dX9_make_90 : decode cX9_make 90 = .ok (.getfield 9, 3) := by decide +kernel
theorem dX9_make_93 : decode cX9_make 93 = .ok (.iload 5, 2) := by decide +kernel
theorem dX9_make_95 : decode cX9_make 95 = .ok (.iaload, 1) := by decide +kernel
theorem dX9_make_96 : decode cX9_make 96 = .ok (.iload 6, 2) := by decide +kernel
theorem dX9_make_98 : decode cX9_make 98 = .ok (.ishr, 1) := by decide +kernel
theorem dX9_make_99 : decode cX9_make 99 = .ok (.iconst 1, 1) := by decide +kernel
theorem dX9_make_100 : decode cX9_make 100 = .ok (.iand, 1) := by decide +kernel
theorem dX9_make_101 : decode cX9_make 101 = .ok (.ifCond .eq 11, 3) := by decide +kernel
theorem dX9_make_104 : decode cX9_make 104 = .ok (.aload_n 0, 1) := by decide +kernel
theorem dX9_make_105 : decode cX9_make 105 = .ok (.iload 5, 2) := by decide +kernel
theorem dX9_make_107 : decode cX9_make 107 = .ok (.iload 6, 2) := by decide +kernel
theorem dX9_make_109 : decode cX9_make 109 = .ok (.invokevirtual 25, 3) := by decide +kernel
theorem dX9_make_112 : decode cX9_make 112 = .ok (.iinc 6 1, 3) := by decide +kernel
theorem dX9_make_115 : decode cX9_make 115 = .ok (.goto (-33), 3) := by decide +kernel
theorem dX9_make_118 : decode cX9_make 118 = .ok (.iinc 5 (-1), 3) := by decide +kernel
theorem dX9_make_121 : decode cX9_make 121 = .ok (.goto (-105), 3) := by decide +kernel
theorem dX9_make_124 : decode cX9_make 124 = .ok (.return_, 1) := by decide +kernel
theorem dX9_leads_0 : decode cX9_leads 0 = .ok (.iload_n 1, 1) := by decide +kernel
theorem dX9_leads_1 : decode cX9_leads 1 = .ok (.ifCond .lt 14, 3) := by decide +kernel
theorem dX9_leads_4 : decode cX9_leads 4 = .ok (.iload_n 2, 1) := by decide +kernel
theorem dX9_leads_5 : decode cX9_leads 5 = .ok (.iload_n 1, 1) := by decide +kernel
theorem dX9_leads_6 : decode cX9_leads 6 = .ok (.if_icmp .le 9, 3) := by decide +kernel
theorem dX9_leads_9 : decode cX9_leads 9 = .ok (.iload_n 2, 1) := by decide +kernel
theorem dX9_leads_10 : decode cX9_leads 10 = .ok (.bipush 24, 2) := by decide +kernel
theorem dX9_leads_12 : decode cX9_leads 12 = .ok (.if_icmp .le 5, 3) := by decide +kernel
theorem dX9_leads_15 : decode cX9_leads 15 = .ok (.iconst 0, 1) := by decide +kernel
theorem dX9_leads_16 : decode cX9_leads 16 = .ok (.ireturn, 1) := by decide +kernel
theorem dX9_leads_17 : decode cX9_leads 17 = .ok (.aload_n 0, 1) := by decide +kernel
theorem dX9_leads_18 : decode cX9_leads 18 = .ok (.getfield 9, 3) := by decide +kernel
theorem dX9_leads_21 : decode cX9_leads 21 = .ok (.iload_n 1, 1) := by decide +kernel
theorem dX9_leads_22 : decode cX9_leads 22 = .ok (.iaload, 1) := by decide +kernel
theorem dX9_leads_23 : decode cX9_leads 23 = .ok (.iload_n 2, 1) := by decide +kernel
theorem dX9_leads_24 : decode cX9_leads 24 = .ok (.ishr, 1) := by decide +kernel
theorem dX9_leads_25 : decode cX9_leads 25 = .ok (.iconst 1, 1) := by decide +kernel
theorem dX9_leads_26 : decode cX9_leads 26 = .ok (.iand, 1) := by decide +kernel
theorem dX9_leads_27 : decode cX9_leads 27 = .ok (.ifCond .eq 34, 3) := by decide +kernel
theorem dX9_leads_30 : decode cX9_leads 30 = .ok (.aload_n 0, 1) := by decide +kernel
theorem dX9_leads_31 : decode cX9_leads 31 = .ok (.getfield 18, 3) := by decide +kernel
theorem dX9_leads_34 : decode cX9_leads 34 = .ok (.iload_n 2, 1) := by decide +kernel
theorem dX9_leads_35 : decode cX9_leads 35 = .ok (.iaload, 1) := by decide +kernel
theorem dX9_leads_36 : decode cX9_leads 36 = .ok (.iconst (-1), 1) := by decide +kernel
theorem dX9_leads_37 : decode cX9_leads 37 = .ok (.if_icmp .eq 24, 3) := by decide +kernel
theorem dX9_leads_40 : decode cX9_leads 40 = .ok (.aload_n 0, 1) := by decide +kernel
theorem dX9_leads_41 : decode cX9_leads 41 = .ok (.getfield 18, 3) := by decide +kernel
theorem dX9_leads_44 : decode cX9_leads 44 = .ok (.iload_n 2, 1) := by decide +kernel
theorem dX9_leads_45 : decode cX9_leads 45 = .ok (.iaload, 1) := by decide +kernel
theorem dX9_leads_46 : decode cX9_leads 46 = .ok (.aload_n 0, 1) := by decide +kernel
theorem dX9_leads_47 : decode cX9_leads 47 = .ok (.getfield 18, 3) := by decide +kernel
theorem dX9_leads_50 : decode cX9_leads 50 = .ok (.iload_n 1, 1) := by decide +kernel
theorem dX9_leads_51 : decode cX9_leads 51 = .ok (.iaload, 1) := by decide +kernel
theorem dX9_leads_52 : decode cX9_leads 52 = .ok (.iconst 1, 1) := by decide +kernel
theorem dX9_leads_53 : decode cX9_leads 53 = .ok (.isub, 1) := by decide +kernel
theorem dX9_leads_54 : decode cX9_leads 54 = .ok (.if_icmp .ne 7, 3) := by decide +kernel
theorem dX9_leads_57 : decode cX9_leads 57 = .ok (.iconst 1, 1) := by decide +kernel
theorem dX9_leads_58 : decode cX9_leads 58 = .ok (.goto 4, 3) := by decide +kernel
theorem dX9_leads_61 : decode cX9_leads 61 = .ok (.iconst 0, 1) := by decide +kernel
theorem dX9_leads_62 : decode cX9_leads 62 = .ok (.ireturn, 1) := by decide +kernel
theorem dX9_addRow_0 : decode cX9_addRow 0 = .ok (.iload_n 1, 1) := by decide +kernel
theorem dX9_addRow_1 : decode cX9_addRow 1 = .ok (.ifCond .lt 24, 3) := by decide +kernel
theorem dX9_addRow_4 : decode cX9_addRow 4 = .ok (.iload_n 2, 1) := by decide +kernel
theorem dX9_addRow_5 : decode cX9_addRow 5 = .ok (.iload_n 1, 1) := by decide +kernel
theorem dX9_addRow_6 : decode cX9_addRow 6 = .ok (.if_icmp .le 19, 3) := by decide +kernel
theorem dX9_addRow_9 : decode cX9_addRow 9 = .ok (.iload_n 2, 1) := by decide +kernel
theorem dX9_addRow_10 : decode cX9_addRow 10 = .ok (.bipush 24, 2) := by decide +kernel
theorem dX9_addRow_12 : decode cX9_addRow 12 = .ok (.if_icmp .gt 13, 3) := by decide +kernel
theorem dX9_addRow_15 : decode cX9_addRow 15 = .ok (.aload_n 0, 1) := by decide +kernel
theorem dX9_addRow_16 : decode cX9_addRow 16 = .ok (.getfield 18, 3) := by decide +kernel
theorem dX9_addRow_19 : decode cX9_addRow 19 = .ok (.iload_n 2, 1) := by decide +kernel
theorem dX9_addRow_20 : decode cX9_addRow 20 = .ok (.iaload, 1) := by decide +kernel
theorem dX9_addRow_21 : decode cX9_addRow 21 = .ok (.iconst (-1), 1) := by decide +kernel
theorem dX9_addRow_22 : decode cX9_addRow 22 = .ok (.if_icmp .ne 4, 3) := by decide +kernel
theorem dX9_addRow_25 : decode cX9_addRow 25 = .ok (.return_, 1) := by decide +kernel
theorem dX9_addRow_26 : decode cX9_addRow 26 = .ok (.aload_n 0, 1) := by decide +kernel
theorem dX9_addRow_27 : decode cX9_addRow 27 = .ok (.getfield 15, 3) := by decide +kernel
theorem dX9_addRow_30 : decode cX9_addRow 30 = .ok (.iload_n 1, 1) := by decide +kernel
theorem dX9_addRow_31 : decode cX9_addRow 31 = .ok (.dup2, 1) := by decide +kernel
theorem dX9_addRow_32 : decode cX9_addRow 32 = .ok (.iaload, 1) := by decide +kernel
theorem dX9_addRow_33 : decode cX9_addRow 33 = .ok (.aload_n 0, 1) := by decide +kernel
theorem dX9_addRow_34 : decode cX9_addRow 34 = .ok (.getfield 15, 3) := by decide +kernel
theorem dX9_addRow_37 : decode cX9_addRow 37 = .ok (.iload_n 2, 1) := by decide +kernel
theorem dX9_addRow_38 : decode cX9_addRow 38 = .ok (.iaload, 1) := by decide +kernel
theorem dX9_addRow_39 : decode cX9_addRow 39 = .ok (.iadd, 1) := by decide +kernel
theorem dX9_addRow_40 : decode cX9_addRow 40 = .ok (.iastore, 1) := by decide +kernel
theorem dX9_addRow_41 : decode cX9_addRow 41 = .ok (.aload_n 0, 1) := by decide +kernel
theorem dX9_addRow_42 : decode cX9_addRow 42 = .ok (.getfield 18, 3) := by decide +kernel
theorem dX9_addRow_45 : decode cX9_addRow 45 = .ok (.iload_n 1, 1) := by decide +kernel
theorem dX9_addRow_46 : decode cX9_addRow 46 = .ok (.iaload, 1) := by decide +kernel
theorem dX9_addRow_47 : decode cX9_addRow 47 = .ok (.iconst (-1), 1) := by decide +kernel
theorem dX9_addRow_48 : decode cX9_addRow 48 = .ok (.if_icmp .eq 20, 3) := by decide +kernel
theorem dX9_addRow_51 : decode cX9_addRow 51 = .ok (.aload_n 0, 1) := by decide +kernel
theorem dX9_addRow_52 : decode cX9_addRow 52 = .ok (.getfield 18, 3) := by decide +kernel
theorem dX9_addRow_55 : decode cX9_addRow 55 = .ok (.iload_n 2, 1) := by decide +kernel
theorem dX9_addRow_56 : decode cX9_addRow 56 = .ok (.iaload, 1) := by decide +kernel
theorem dX9_addRow_57 : decode cX9_addRow 57 = .ok (.iconst 1, 1) := by decide +kernel
theorem dX9_addRow_58 : decode cX9_addRow 58 = .ok (.iadd, 1) := by decide +kernel
theorem dX9_addRow_59 : decode cX9_addRow 59 = .ok (.aload_n 0, 1) := by decide +kernel
theorem dX9_addRow_60 : decode cX9_addRow 60 = .ok (.getfield 18, 3) := by decide +kernel
theorem dX9_addRow_63 : decode cX9_addRow 63 = .ok (.iload_n 1, 1) := by decide +kernel
theorem dX9_addRow_64 : decode cX9_addRow 64 = .ok (.iaload, 1) := by decide +kernel
theorem dX9_addRow_65 : decode cX9_addRow 65 = .ok (.if_icmp .ge 17, 3) := by decide +kernel
theorem dX9_addRow_68 : decode cX9_addRow 68 = .ok (.aload_n 0, 1) := by decide +kernel
theorem dX9_addRow_69 : decode cX9_addRow 69 = .ok (.getfield 18, 3) := by decide +kernel
theorem dX9_addRow_72 : decode cX9_addRow 72 = .ok (.iload_n 1, 1) := by decide +kernel
theorem dX9_addRow_73 : decode cX9_addRow 73 = .ok (.aload_n 0, 1) := by decide +kernel
theorem dX9_addRow_74 : decode cX9_addRow 74 = .ok (.getfield 18, 3) := by decide +kernel
theorem dX9_addRow_77 : decode cX9_addRow 77 = .ok (.iload_n 2, 1) := by decide +kernel
theorem dX9_addRow_78 : decode cX9_addRow 78 = .ok (.iaload, 1) := by decide +kernel
theorem dX9_addRow_79 : decode cX9_addRow 79 = .ok (.iconst 1, 1) := by decide +kernel
theorem dX9_addRow_80 : decode cX9_addRow 80 = .ok (.iadd, 1) := by decide +kernel
theorem dX9_addRow_81 : decode cX9_addRow 81 = .ok (.iastore, 1) := by decide +kernel
theorem dX9_addRow_82 : decode cX9_addRow 82 = .ok (.return_, 1) := by decide +kernel
theorem dX9_endsFrom_0 : decode cX9_endsFrom 0 = .ok (.iconst 0, 1) := by decide +kernel
theorem dX9_endsFrom_1 : decode cX9_endsFrom 1 = .ok (.istore 4, 2) := by decide +kernel
theorem dX9_endsFrom_3 : decode cX9_endsFrom 3 = .ok (.aload_n 0, 1) := by decide +kernel
theorem dX9_endsFrom_4 : decode cX9_endsFrom 4 = .ok (.iconst 0, 1) := by decide +kernel
theorem dX9_endsFrom_5 : decode cX9_endsFrom 5 = .ok (.invokevirtual 29, 3) := by decide +kernel
theorem dX9_endsFrom_8 : decode cX9_endsFrom 8 = .ok (.istore 5, 2) := by decide +kernel
theorem dX9_endsFrom_10 : decode cX9_endsFrom 10 = .ok (.iload_n 2, 1) := by decide +kernel
theorem dX9_endsFrom_11 : decode cX9_endsFrom 11 = .ok (.istore 6, 2) := by decide +kernel
theorem dX9_endsFrom_13 : decode cX9_endsFrom 13 = .ok (.iload 6, 2) := by decide +kernel
theorem dX9_endsFrom_15 : decode cX9_endsFrom 15 = .ok (.iload_n 3, 1) := by decide +kernel
theorem dX9_endsFrom_16 : decode cX9_endsFrom 16 = .ok (.if_icmp .ge 65, 3) := by decide +kernel
theorem dX9_endsFrom_19 : decode cX9_endsFrom 19 = .ok (.iload 5, 2) := by decide +kernel
theorem dX9_endsFrom_21 : decode cX9_endsFrom 21 = .ok (.ifCond .eq 60, 3) := by decide +kernel
theorem dX9_endsFrom_24 : decode cX9_endsFrom 24 = .ok (.iload 5, 2) := by decide +kernel
theorem dX9_endsFrom_26 : decode cX9_endsFrom 26 = .ok (.aload_n 0, 1) := by decide +kernel
theorem dX9_endsFrom_27 : decode cX9_endsFrom 27 = .ok (.iconst 0, 1) := by decide +kernel
theorem dX9_endsFrom_28 : decode cX9_endsFrom 28 = .ok (.aload_n 1, 1) := by decide +kernel
theorem dX9_endsFrom_29 : decode cX9_endsFrom 29 = .ok (.iload 6, 2) := by decide +kernel
theorem dX9_endsFrom_31 : decode cX9_endsFrom 31 = .ok (.invokevirtual 35, 3) := by decide +kernel
theorem dX9_endsFrom_34 : decode cX9_endsFrom 34 = .ok (.invokevirtual 40, 3) := by decide +kernel
theorem dX9_endsFrom_37 : decode cX9_endsFrom 37 = .ok (.iand, 1) := by decide +kernel
theorem dX9_endsFrom_38 : decode cX9_endsFrom 38 = .ok (.istore 7, 2) := by decide +kernel
theorem dX9_endsFrom_40 : decode cX9_endsFrom 40 = .ok (.iload 4, 2) := by decide +kernel
theorem dX9_endsFrom_42 : decode cX9_endsFrom 42 = .ok (.aload_n 0, 1) := by decide +kernel
theorem dX9_endsFrom_43 : decode cX9_endsFrom 43 = .ok (.iconst 0, 1) := by decide +kernel
theorem dX9_endsFrom_44 : decode cX9_endsFrom 44 = .ok (.iload 7, 2) := by decide +kernel
theorem dX9_endsFrom_46 : decode cX9_endsFrom 46 = .ok (.invokevirtual 44, 3) := by decide +kernel
theorem dX9_endsFrom_49 : decode cX9_endsFrom 49 = .ok (.iconst (-1), 1) := by decide +kernel
theorem dX9_endsFrom_50 : decode cX9_endsFrom 50 = .ok (.if_icmp .ne 7, 3) := by decide +kernel
theorem dX9_endsFrom_53 : decode cX9_endsFrom 53 = .ok (.iconst 0, 1) := by decide +kernel
theorem dX9_endsFrom_54 : decode cX9_endsFrom 54 = .ok (.goto 9, 3) := by decide +kernel
theorem dX9_endsFrom_57 : decode cX9_endsFrom 57 = .ok (.iconst 1, 1) := by decide +kernel
theorem dX9_endsFrom_58 : decode cX9_endsFrom 58 = .ok (.iload 6, 2) := by decide +kernel
theorem dX9_endsFrom_60 : decode cX9_endsFrom 60 = .ok (.iconst 1, 1) := by decide +kernel
theorem dX9_endsFrom_61 : decode cX9_endsFrom 61 = .ok (.iadd, 1) := by decide +kernel
theorem dX9_endsFrom_62 : decode cX9_endsFrom 62 = .ok (.ishl, 1) := by decide +kernel
theorem dX9_endsFrom_63 : decode cX9_endsFrom 63 = .ok (.ior, 1) := by decide +kernel
theorem dX9_endsFrom_64 : decode cX9_endsFrom 64 = .ok (.istore 4, 2) := by decide +kernel
theorem dX9_endsFrom_66 : decode cX9_endsFrom 66 = .ok (.aload_n 0, 1) := by decide +kernel
theorem dX9_endsFrom_67 : decode cX9_endsFrom 67 = .ok (.iconst 0, 1) := by decide +kernel
theorem dX9_endsFrom_68 : decode cX9_endsFrom 68 = .ok (.iload 7, 2) := by decide +kernel
theorem dX9_endsFrom_70 : decode cX9_endsFrom 70 = .ok (.invokevirtual 47, 3) := by decide +kernel
theorem dX9_endsFrom_73 : decode cX9_endsFrom 73 = .ok (.istore 5, 2) := by decide +kernel
theorem dX9_endsFrom_75 : decode cX9_endsFrom 75 = .ok (.iinc 6 1, 3) := by decide +kernel
theorem dX9_endsFrom_78 : decode cX9_endsFrom 78 = .ok (.goto (-65), 3) := by decide +kernel
theorem dX9_endsFrom_81 : decode cX9_endsFrom 81 = .ok (.iload 4, 2) := by decide +kernel
theorem dX9_endsFrom_83 : decode cX9_endsFrom 83 = .ok (.ireturn, 1) := by decide +kernel
theorem dX10_init_0 : decode cX10_init 0 = .ok (.aload_n 0, 1) := by decide +kernel
theorem dX10_init_1 : decode cX10_init 1 = .ok (.invokespecial 3, 3) := by decide +kernel
theorem dX10_init_4 : decode cX10_init 4 = .ok (.aload_n 0, 1) := by decide +kernel
theorem dX10_init_5 : decode cX10_init 5 = .ok (.bipush 80, 2) := by decide +kernel
theorem dX10_init_7 : decode cX10_init 7 = .ok (.newarray .int, 2) := by decide +kernel
theorem dX10_init_9 : decode cX10_init 9 = .ok (.putfield 9, 3) := by decide +kernel
theorem dX10_init_12 : decode cX10_init 12 = .ok (.aload_n 0, 1) := by decide +kernel
theorem dX10_init_13 : decode cX10_init 13 = .ok (.iconst 0, 1) := by decide +kernel
theorem dX10_init_14 : decode cX10_init 14 = .ok (.putfield 15, 3) := by decide +kernel
theorem dX10_init_17 : decode cX10_init 17 = .ok (.return_, 1) := by decide +kernel
theorem dX10_addFour_0 : decode cX10_addFour 0 = .ok (.aload_n 0, 1) := by decide +kernel
theorem dX10_addFour_1 : decode cX10_addFour 1 = .ok (.getfield 15, 3) := by decide +kernel
theorem dX10_addFour_4 : decode cX10_addFour 4 = .ok (.ifCond .lt 12, 3) := by decide +kernel
theorem dX10_addFour_7 : decode cX10_addFour 7 = .ok (.aload_n 0, 1) := by decide +kernel
theorem dX10_addFour_8 : decode cX10_addFour 8 = .ok (.getfield 15, 3) := by decide +kernel
theorem dX10_addFour_11 : decode cX10_addFour 11 = .ok (.bipush 76, 2) := by decide +kernel
theorem dX10_addFour_13 : decode cX10_addFour 13 = .ok (.if_icmp .le 5, 3) := by decide +kernel
theorem dX10_addFour_16 : decode cX10_addFour 16 = .ok (.iconst 0, 1) := by decide +kernel
theorem dX10_addFour_17 : decode cX10_addFour 17 = .ok (.ireturn, 1) := by decide +kernel
theorem dX10_addFour_18 : decode cX10_addFour 18 = .ok (.bipush 24, 2) := by decide +kernel
theorem dX10_addFour_20 : decode cX10_addFour 20 = .ok (.istore_n 2, 1) := by decide +kernel
theorem dX10_addFour_21 : decode cX10_addFour 21 = .ok (.iload_n 2, 1) := by decide +kernel
theorem dX10_addFour_22 : decode cX10_addFour 22 = .ok (.ifCond .lt 35, 3) := by decide +kernel
theorem dX10_addFour_25 : decode cX10_addFour 25 = .ok (.aload_n 0, 1) := by decide +kernel
theorem dX10_addFour_26 : decode cX10_addFour 26 = .ok (.getfield 9, 3) := by decide +kernel
theorem dX10_addFour_29 : decode cX10_addFour 29 = .ok (.aload_n 0, 1) := by decide +kernel
theorem dX10_addFour_30 : decode cX10_addFour 30 = .ok (.getfield 15, 3) := by decide +kernel
theorem dX10_addFour_33 : decode cX10_addFour 33 = .ok (.iload_n 1, 1) := by decide +kernel
theorem dX10_addFour_34 : decode cX10_addFour 34 = .ok (.iload_n 2, 1) := by decide +kernel
theorem dX10_addFour_35 : decode cX10_addFour 35 = .ok (.iushr, 1) := by decide +kernel
theorem dX10_addFour_36 : decode cX10_addFour 36 = .ok (.sipush 255, 3) := by decide +kernel
theorem dX10_addFour_39 : decode cX10_addFour 39 = .ok (.iand, 1) := by decide +kernel
theorem dX10_addFour_40 : decode cX10_addFour 40 = .ok (.iastore, 1) := by decide +kernel
theorem dX10_addFour_41 : decode cX10_addFour 41 = .ok (.aload_n 0, 1) := by decide +kernel
theorem dX10_addFour_42 : decode cX10_addFour 42 = .ok (.dup, 1) := by decide +kernel
theorem dX10_addFour_43 : decode cX10_addFour 43 = .ok (.getfield 15, 3) := by decide +kernel
theorem dX10_addFour_46 : decode cX10_addFour 46 = .ok (.iconst 1, 1) := by decide +kernel
theorem dX10_addFour_47 : decode cX10_addFour 47 = .ok (.iadd, 1) := by decide +kernel
theorem dX10_addFour_48 : decode cX10_addFour 48 = .ok (.putfield 15, 3) := by decide +kernel
theorem dX10_addFour_51 : decode cX10_addFour 51 = .ok (.iinc 2 (-8), 3) := by decide +kernel
theorem dX10_addFour_54 : decode cX10_addFour 54 = .ok (.goto (-33), 3) := by decide +kernel
theorem dX10_addFour_57 : decode cX10_addFour 57 = .ok (.iconst 1, 1) := by decide +kernel
theorem dX10_addFour_58 : decode cX10_addFour 58 = .ok (.ireturn, 1) := by decide +kernel
theorem dX10_shorten_0 : decode cX10_shorten 0 = .ok (.iload_n 1, 1) := by decide +kernel
theorem dX10_shorten_1 : decode cX10_shorten 1 = .ok (.ifCond .lt 11, 3) := by decide +kernel
theorem dX10_shorten_4 : decode cX10_shorten 4 = .ok (.iload_n 1, 1) := by decide +kernel
theorem dX10_shorten_5 : decode cX10_shorten 5 = .ok (.aload_n 0, 1) := by decide +kernel
theorem dX10_shorten_6 : decode cX10_shorten 6 = .ok (.getfield 15, 3) := by decide +kernel
theorem dX10_shorten_9 : decode cX10_shorten 9 = .ok (.if_icmp .le 5, 3) := by decide +kernel
theorem dX10_shorten_12 : decode cX10_shorten 12 = .ok (.iconst 0, 1) := by decide +kernel
theorem dX10_shorten_13 : decode cX10_shorten 13 = .ok (.ireturn, 1) := by decide +kernel
theorem dX10_shorten_14 : decode cX10_shorten 14 = .ok (.aload_n 0, 1) := by decide +kernel
theorem dX10_shorten_15 : decode cX10_shorten 15 = .ok (.iload_n 1, 1) := by decide +kernel
theorem dX10_shorten_16 : decode cX10_shorten 16 = .ok (.putfield 15, 3) := by decide +kernel
theorem dX10_shorten_19 : decode cX10_shorten 19 = .ok (.iconst 1, 1) := by decide +kernel
theorem dX10_shorten_20 : decode cX10_shorten 20 = .ok (.ireturn, 1) := by decide +kernel
theorem dX10_empty_0 : decode cX10_empty 0 = .ok (.aload_n 0, 1) := by decide +kernel
theorem dX10_empty_1 : decode cX10_empty 1 = .ok (.iconst 0, 1) := by decide +kernel
theorem dX10_empty_2 : decode cX10_empty 2 = .ok (.putfield 15, 3) := by decide +kernel
theorem dX10_empty_5 : decode cX10_empty 5 = .ok (.return_, 1) := by decide +kernel
theorem dX10_get_0 : decode cX10_get 0 = .ok (.iload_n 1, 1) := by decide +kernel
theorem dX10_get_1 : decode cX10_get 1 = .ok (.ifCond .lt 26, 3) := by decide +kernel
theorem dX10_get_4 : decode cX10_get 4 = .ok (.iload_n 1, 1) := by decide +kernel
theorem dX10_get_5 : decode cX10_get 5 = .ok (.aload_n 0, 1) := by decide +kernel
theorem dX10_get_6 : decode cX10_get 6 = .ok (.getfield 15, 3) := by decide +kernel
theorem dX10_get_9 : decode cX10_get 9 = .ok (.if_icmp .ge 18, 3) := by decide +kernel
theorem dX10_get_12 : decode cX10_get 12 = .ok (.iload_n 1, 1) := by decide +kernel
theorem dX10_get_13 : decode cX10_get 13 = .ok (.bipush 80, 2) := by decide +kernel
theorem dX10_get_15 : decode cX10_get 15 = .ok (.if_icmp .ge 12, 3) := by decide +kernel
theorem dX10_get_18 : decode cX10_get 18 = .ok (.aload_n 0, 1) := by decide +kernel
theorem dX10_get_19 : decode cX10_get 19 = .ok (.getfield 9, 3) := by decide +kernel
theorem dX10_get_22 : decode cX10_get 22 = .ok (.iload_n 1, 1) := by decide +kernel
theorem dX10_get_23 : decode cX10_get 23 = .ok (.iaload, 1) := by decide +kernel
theorem dX10_get_24 : decode cX10_get 24 = .ok (.goto 4, 3) := by decide +kernel
theorem dX10_get_27 : decode cX10_get 27 = .ok (.iconst (-1), 1) := by decide +kernel
theorem dX10_get_28 : decode cX10_get 28 = .ok (.ireturn, 1) := by decide +kernel
theorem dX11_init_0 : decode cX11_init 0 = .ok (.aload_n 0, 1) := by decide +kernel
theorem dX11_init_1 : decode cX11_init 1 = .ok (.invokespecial 3, 3) := by decide +kernel
theorem dX11_init_4 : decode cX11_init 4 = .ok (.aload_n 0, 1) := by decide +kernel
theorem dX11_init_5 : decode cX11_init 5 = .ok (.new 9, 3) := by decide +kernel
theorem dX11_init_8 : decode cX11_init 8 = .ok (.dup, 1) := by decide +kernel
theorem dX11_init_9 : decode cX11_init 9 = .ok (.invokespecial 11, 3) := by decide +kernel
theorem dX11_init_12 : decode cX11_init 12 = .ok (.putfield 12, 3) := by decide +kernel
theorem dX11_init_15 : decode cX11_init 15 = .ok (.aload_n 0, 1) := by decide +kernel
theorem dX11_init_16 : decode cX11_init 16 = .ok (.new 16, 3) := by decide +kernel
theorem dX11_init_19 : decode cX11_init 19 = .ok (.dup, 1) := by decide +kernel
theorem dX11_init_20 : decode cX11_init 20 = .ok (.invokespecial 18, 3) := by decide +kernel
theorem dX11_init_23 : decode cX11_init 23 = .ok (.putfield 19, 3) := by decide +kernel
theorem dX11_init_26 : decode cX11_init 26 = .ok (.aload_n 0, 1) := by decide +kernel
theorem dX11_init_27 : decode cX11_init 27 = .ok (.new 23, 3) := by decide +kernel
theorem dX11_init_30 : decode cX11_init 30 = .ok (.dup, 1) := by decide +kernel
theorem dX11_init_31 : decode cX11_init 31 = .ok (.invokespecial 25, 3) := by decide +kernel
theorem dX11_init_34 : decode cX11_init 34 = .ok (.putfield 26, 3) := by decide +kernel
theorem dX11_init_37 : decode cX11_init 37 = .ok (.aload_n 0, 1) := by decide +kernel
theorem dX11_init_38 : decode cX11_init 38 = .ok (.new 30, 3) := by decide +kernel
theorem dX11_init_41 : decode cX11_init 41 = .ok (.dup, 1) := by decide +kernel
theorem dX11_init_42 : decode cX11_init 42 = .ok (.invokespecial 32, 3) := by decide +kernel
theorem dX11_init_45 : decode cX11_init 45 = .ok (.putfield 33, 3) := by decide +kernel
theorem dX11_init_48 : decode cX11_init 48 = .ok (.aload_n 0, 1) := by decide +kernel
theorem dX11_init_49 : decode cX11_init 49 = .ok (.new 37, 3) := by decide +kernel
theorem dX11_init_52 : decode cX11_init 52 = .ok (.dup, 1) := by decide +kernel
theorem dX11_init_53 : decode cX11_init 53 = .ok (.invokespecial 39, 3) := by decide +kernel
theorem dX11_init_56 : decode cX11_init 56 = .ok (.putfield 40, 3) := by decide +kernel
theorem dX11_init_59 : decode cX11_init 59 = .ok (.aload_n 0, 1) := by decide +kernel
theorem dX11_init_60 : decode cX11_init 60 = .ok (.new 44, 3) := by decide +kernel
theorem dX11_init_63 : decode cX11_init 63 = .ok (.dup, 1) := by decide +kernel
theorem dX11_init_64 : decode cX11_init 64 = .ok (.invokespecial 46, 3) := by decide +kernel
theorem dX11_init_67 : decode cX11_init 67 = .ok (.putfield 47, 3) := by decide +kernel
theorem dX11_init_70 : decode cX11_init 70 = .ok (.aload_n 0, 1) := by decide +kernel
theorem dX11_init_71 : decode cX11_init 71 = .ok (.new 37, 3) := by decide +kernel
theorem dX11_init_74 : decode cX11_init 74 = .ok (.dup, 1) := by decide +kernel
theorem dX11_init_75 : decode cX11_init 75 = .ok (.invokespecial 39, 3) := by decide +kernel
theorem dX11_init_78 : decode cX11_init 78 = .ok (.putfield 51, 3) := by decide +kernel
theorem dX11_init_81 : decode cX11_init 81 = .ok (.aload_n 0, 1) := by decide +kernel
theorem dX11_init_82 : decode cX11_init 82 = .ok (.new 54, 3) := by decide +kernel
theorem dX11_init_85 : decode cX11_init 85 = .ok (.dup, 1) := by decide +kernel
theorem dX11_init_86 : decode cX11_init 86 = .ok (.invokespecial 56, 3) := by decide +kernel
theorem dX11_init_89 : decode cX11_init 89 = .ok (.putfield 57, 3) := by decide +kernel
theorem dX11_init_92 : decode cX11_init 92 = .ok (.aload_n 0, 1) := by decide +kernel
theorem dX11_init_93 : decode cX11_init 93 = .ok (.new 44, 3) := by decide +kernel
theorem dX11_init_96 : decode cX11_init 96 = .ok (.dup, 1) := by decide +kernel
theorem dX11_init_97 : decode cX11_init 97 = .ok (.invokespecial 46, 3) := by decide +kernel
theorem dX11_init_100 : decode cX11_init 100 = .ok (.putfield 61, 3) := by decide +kernel
theorem dX11_init_103 : decode cX11_init 103 = .ok (.aload_n 0, 1) := by decide +kernel
theorem dX11_init_104 : decode cX11_init 104 = .ok (.new 64, 3) := by decide +kernel
theorem dX11_init_107 : decode cX11_init 107 = .ok (.dup, 1) := by decide +kernel
theorem dX11_init_108 : decode cX11_init 108 = .ok (.invokespecial 66, 3) := by decide +kernel
theorem dX11_init_111 : decode cX11_init 111 = .ok (.putfield 67, 3) := by decide +kernel
theorem dX11_init_114 : decode cX11_init 114 = .ok (.aload_n 0, 1) := by decide +kernel
theorem dX11_init_115 : decode cX11_init 115 = .ok (.new 71, 3) := by decide +kernel
theorem dX11_init_118 : decode cX11_init 118 = .ok (.dup, 1) := by decide +kernel
theorem dX11_init_119 : decode cX11_init 119 = .ok (.invokespecial 73, 3) := by decide +kernel
theorem dX11_init_122 : decode cX11_init 122 = .ok (.putfield 74, 3) := by decide +kernel
theorem dX11_init_125 : decode cX11_init 125 = .ok (.aload_n 0, 1) := by decide +kernel
theorem dX11_init_126 : decode cX11_init 126 = .ok (.new 78, 3) := by decide +kernel
theorem dX11_init_129 : decode cX11_init 129 = .ok (.dup, 1) := by decide +kernel
theorem dX11_init_130 : decode cX11_init 130 = .ok (.invokespecial 80, 3) := by decide +kernel
theorem dX11_init_133 : decode cX11_init 133 = .ok (.putfield 81, 3) := by decide +kernel
theorem dX11_init_136 : decode cX11_init 136 = .ok (.aload_n 0, 1) := by decide +kernel
theorem dX11_init_137 : decode cX11_init 137 = .ok (.new 85, 3) := by decide +kernel
theorem dX11_init_140 : decode cX11_init 140 = .ok (.dup, 1) := by decide +kernel
theorem dX11_init_141 : decode cX11_init 141 = .ok (.invokespecial 87, 3) := by decide +kernel
theorem dX11_init_144 : decode cX11_init 144 = .ok (.putfield 88, 3) := by decide +kernel
theorem dX11_init_147 : decode cX11_init 147 = .ok (.aload_n 0, 1) := by decide +kernel
theorem dX11_init_148 : decode cX11_init 148 = .ok (.iconst 2, 1) := by decide +kernel
theorem dX11_init_149 : decode cX11_init 149 = .ok (.anewarray 30, 3) := by decide +kernel
theorem dX11_init_152 : decode cX11_init 152 = .ok (.putfield 92, 3) := by decide +kernel
theorem dX11_init_155 : decode cX11_init 155 = .ok (.aload_n 0, 1) := by decide +kernel
theorem dX11_init_156 : decode cX11_init 156 = .ok (.sipush 1024, 3) := by decide +kernel
theorem dX11_init_159 : decode cX11_init 159 = .ok (.newarray .long, 2) := by decide +kernel
theorem dX11_init_161 : decode cX11_init 161 = .ok (.putfield 96, 3) := by decide +kernel
theorem dX11_init_164 : decode cX11_init 164 = .ok (.aload_n 0, 1) := by decide +kernel
theorem dX11_init_165 : decode cX11_init 165 = .ok (.iconst 0, 1) := by decide +kernel
theorem dX11_init_166 : decode cX11_init 166 = .ok (.putfield 100, 3) := by decide +kernel
theorem dX11_init_169 : decode cX11_init 169 = .ok (.return_, 1) := by decide +kernel
theorem dX11_sign_0 : decode cX11_sign 0 = .ok (.aload_n 0, 1) := by decide +kernel
theorem dX11_sign_1 : decode cX11_sign 1 = .ok (.getfield 12, 3) := by decide +kernel
theorem dX11_sign_4 : decode cX11_sign 4 = .ok (.iload_n 1, 1) := by decide +kernel
theorem dX11_sign_5 : decode cX11_sign 5 = .ok (.invokevirtual 104, 3) := by decide +kernel
theorem dX11_sign_8 : decode cX11_sign 8 = .ok (.ifCond .eq 13, 3) := by decide +kernel
theorem dX11_sign_11 : decode cX11_sign 11 = .ok (.aload_n 0, 1) := by decide +kernel
theorem dX11_sign_12 : decode cX11_sign 12 = .ok (.getfield 12, 3) := by decide +kernel
theorem dX11_sign_15 : decode cX11_sign 15 = .ok (.getfield 108, 3) := by decide +kernel
theorem dX11_sign_18 : decode cX11_sign 18 = .ok (.goto 4, 3) := by decide +kernel
theorem dX11_sign_21 : decode cX11_sign 21 = .ok (.iconst (-1), 1) := by decide +kernel
theorem dX11_sign_22 : decode cX11_sign 22 = .ok (.ireturn, 1) := by decide +kernel
theorem dX11_end_0 : decode cX11_end 0 = .ok (.aload_n 0, 1) := by decide +kernel
theorem dX11_end_1 : decode cX11_end 1 = .ok (.getfield 12, 3) := by decide +kernel
theorem dX11_end_4 : decode cX11_end 4 = .ok (.iload_n 1, 1) := by decide +kernel
theorem dX11_end_5 : decode cX11_end 5 = .ok (.invokevirtual 111, 3) := by decide +kernel
theorem dX11_end_8 : decode cX11_end 8 = .ok (.ireturn, 1) := by decide +kernel
theorem dX11_rules_0 : decode cX11_rules 0 = .ok (.aload_n 0, 1) := by decide +kernel
theorem dX11_rules_1 : decode cX11_rules 1 = .ok (.getfield 19, 3) := by decide +kernel
theorem dX11_rules_4 : decode cX11_rules 4 = .ok (.aload_n 0, 1) := by decide +kernel
theorem dX11_rules_5 : decode cX11_rules 5 = .ok (.getfield 12, 3) := by decide +kernel
theorem dX11_rules_8 : decode cX11_rules 8 = .ok (.invokevirtual 114, 3) := by decide +kernel
theorem dX11_rules_11 : decode cX11_rules 11 = .ok (.istore_n 1, 1) := by decide +kernel
theorem dX11_rules_12 : decode cX11_rules 12 = .ok (.iload_n 1, 1) := by decide +kernel
theorem dX11_rules_13 : decode cX11_rules 13 = .ok (.ifCond .ne 15, 3) := by decide +kernel
theorem dX11_rules_16 : decode cX11_rules 16 = .ok (.aload_n 0, 1) := by decide +kernel
theorem dX11_rules_17 : decode cX11_rules 17 = .ok (.getfield 19, 3) := by decide +kernel
theorem dX11_rules_20 : decode cX11_rules 20 = .ok (.aload_n 0, 1) := by decide +kernel
theorem dX11_rules_21 : decode cX11_rules 21 = .ok (.getfield 12, 3) := by decide +kernel
theorem dX11_rules_24 : decode cX11_rules 24 = .ok (.invokevirtual 118, 3) := by decide +kernel
theorem dX11_rules_27 : decode cX11_rules 27 = .ok (.istore_n 1, 1) := by decide +kernel
theorem dX11_rules_28 : decode cX11_rules 28 = .ok (.iload_n 1, 1) := by decide +kernel
theorem dX11_rules_29 : decode cX11_rules 29 = .ok (.ifCond .ne 29, 3) := by decide +kernel
theorem dX11_rules_32 : decode cX11_rules 32 = .ok (.aload_n 0, 1) := by decide +kernel
theorem dX11_rules_33 : decode cX11_rules 33 = .ok (.getfield 88, 3) := by decide +kernel
theorem dX11_rules_36 : decode cX11_rules 36 = .ok (.aload_n 0, 1) := by decide +kernel
theorem dX11_rules_37 : decode cX11_rules 37 = .ok (.getfield 33, 3) := by decide +kernel
theorem dX11_rules_40 : decode cX11_rules 40 = .ok (.invokevirtual 121, 3) := by decide +kernel
theorem dX11_rules_43 : decode cX11_rules 43 = .ok (.aload_n 0, 1) := by decide +kernel
theorem dX11_rules_44 : decode cX11_rules 44 = .ok (.getfield 33, 3) := by decide +kernel
theorem dX11_rules_47 : decode cX11_rules 47 = .ok (.aload_n 0, 1) := by decide +kernel
theorem dX11_rules_48 : decode cX11_rules 48 = .ok (.getfield 12, 3) := by decide +kernel
theorem dX11_rules_51 : decode cX11_rules 51 = .ok (.invokevirtual 125, 3) := by decide +kernel
theorem dX11_rules_54 : decode cX11_rules 54 = .ok (.aload_n 0, 1) := by decide +kernel
theorem dX11_rules_55 : decode cX11_rules 55 = .ok (.invokevirtual 129, 3) := by decide +kernel
theorem dX11_rules_58 : decode cX11_rules 58 = .ok (.aload_n 0, 1) := by decide +kernel
theorem dX11_rules_59 : decode cX11_rules 59 = .ok (.getfield 12, 3) := by decide +kernel
theorem dX11_rules_62 : decode cX11_rules 62 = .ok (.invokevirtual 132, 3) := by decide +kernel
theorem dX11_rules_65 : decode cX11_rules 65 = .ok (.iload_n 1, 1) := by decide +kernel
theorem dX11_rules_66 : decode cX11_rules 66 = .ok (.ifCond .ge 7, 3) := by decide +kernel
theorem dX11_rules_69 : decode cX11_rules 69 = .ok (.iload_n 1, 1) := by decide +kernel
theorem dX11_rules_70 : decode cX11_rules 70 = .ok (.goto 10, 3) := by decide +kernel
theorem dX11_rules_73 : decode cX11_rules 73 = .ok (.aload_n 0, 1) := by decide +kernel
theorem dX11_rules_74 : decode cX11_rules 74 = .ok (.getfield 40, 3) := by decide +kernel
theorem dX11_rules_77 : decode cX11_rules 77 = .ok (.getfield 135, 3) := by decide +kernel
theorem dX11_rules_80 : decode cX11_rules 80 = .ok (.ireturn, 1) := by decide +kernel
theorem dX11_line_0 : decode cX11_line 0 = .ok (.aload_n 0, 1) := by decide +kernel
theorem dX11_line_1 : decode cX11_line 1 = .ok (.getfield 19, 3) := by decide +kernel
theorem dX11_line_4 : decode cX11_line 4 = .ok (.aload_n 0, 1) := by decide +kernel
theorem dX11_line_5 : decode cX11_line 5 = .ok (.getfield 12, 3) := by decide +kernel
theorem dX11_line_8 : decode cX11_line 8 = .ok (.invokevirtual 138, 3) := by decide +kernel
theorem dX11_line_11 : decode cX11_line 11 = .ok (.istore_n 1, 1) := by decide +kernel
theorem dX11_line_12 : decode cX11_line 12 = .ok (.iload_n 1, 1) := by decide +kernel
theorem dX11_line_13 : decode cX11_line 13 = .ok (.ifCond .ne 32, 3) := by decide +kernel
theorem dX11_line_16 : decode cX11_line 16 = .ok (.aload_n 0, 1) := by decide +kernel
theorem dX11_line_17 : decode cX11_line 17 = .ok (.getfield 88, 3) := by decide +kernel
theorem dX11_line_20 : decode cX11_line 20 = .ok (.aload_n 0, 1) := by decide +kernel
theorem dX11_line_21 : decode cX11_line 21 = .ok (.getfield 33, 3) := by decide +kernel
theorem dX11_line_24 : decode cX11_line 24 = .ok (.invokevirtual 121, 3) := by decide +kernel
theorem dX11_line_27 : decode cX11_line 27 = .ok (.aload_n 0, 1) := by decide +kernel
theorem dX11_line_28 : decode cX11_line 28 = .ok (.getfield 33, 3) := by decide +kernel
theorem dX11_line_31 : decode cX11_line 31 = .ok (.getfield 141, 3) := by decide +kernel
theorem dX11_line_34 : decode cX11_line 34 = .ok (.aload_n 0, 1) := by decide +kernel
theorem dX11_line_35 : decode cX11_line 35 = .ok (.getfield 12, 3) := by decide +kernel
theorem dX11_line_38 : decode cX11_line 38 = .ok (.invokevirtual 144, 3) := by decide +kernel
theorem dX11_line_41 : decode cX11_line 41 = .ok (.aload_n 0, 1) := by decide +kernel
theorem dX11_line_42 : decode cX11_line 42 = .ok (.invokevirtual 147, 3) := by decide +kernel
theorem dX11_line_45 : decode cX11_line 45 = .ok (.aload_n 0, 1) := by decide +kernel
theorem dX11_line_46 : decode cX11_line 46 = .ok (.getfield 12, 3) := by decide +kernel
theorem dX11_line_49 : decode cX11_line 49 = .ok (.invokevirtual 132, 3) := by decide +kernel
theorem dX11_line_52 : decode cX11_line 52 = .ok (.iload_n 1, 1) := by decide +kernel
theorem dX11_line_53 : decode cX11_line 53 = .ok (.ifCond .ge 7, 3) := by decide +kernel
theorem dX11_line_56 : decode cX11_line 56 = .ok (.iload_n 1, 1) := by decide +kernel
theorem dX11_line_57 : decode cX11_line 57 = .ok (.goto 13, 3) := by decide +kernel
theorem dX11_line_60 : decode cX11_line 60 = .ok (.aload_n 0, 1) := by decide +kernel
theorem dX11_line_61 : decode cX11_line 61 = .ok (.getfield 33, 3) := by decide +kernel
theorem dX11_line_64 : decode cX11_line 64 = .ok (.getfield 141, 3) := by decide +kernel
theorem dX11_line_67 : decode cX11_line 67 = .ok (.getfield 150, 3) := by decide +kernel
theorem dX11_line_70 : decode cX11_line 70 = .ok (.ireturn, 1) := by decide +kernel
theorem dX11_rule_0 : decode cX11_rule 0 = .ok (.iload_n 1, 1) := by decide +kernel
theorem dX11_rule_1 : decode cX11_rule 1 = .ok (.ifCond .lt 14, 3) := by decide +kernel
theorem dX11_rule_4 : decode cX11_rule 4 = .ok (.iload_n 1, 1) := by decide +kernel
theorem dX11_rule_5 : decode cX11_rule 5 = .ok (.aload_n 0, 1) := by decide +kernel
theorem dX11_rule_6 : decode cX11_rule 6 = .ok (.getfield 40, 3) := by decide +kernel
theorem dX11_rule_9 : decode cX11_rule 9 = .ok (.getfield 135, 3) := by decide +kernel
theorem dX11_rule_12 : decode cX11_rule 12 = .ok (.if_icmp .lt 11, 3) := by decide +kernel
theorem dX11_rule_15 : decode cX11_rule 15 = .ok (.new 151, 3) := by decide +kernel
theorem dX11_rule_18 : decode cX11_rule 18 = .ok (.dup, 1) := by decide +kernel
theorem dX11_rule_19 : decode cX11_rule 19 = .ok (.invokespecial 153, 3) := by decide +kernel
theorem dX11_rule_22 : decode cX11_rule 22 = .ok (.athrow, 1) := by decide +kernel
theorem dX11_rule_23 : decode cX11_rule 23 = .ok (.iload_n 2, 1) := by decide +kernel
theorem dX11_rule_24 : decode cX11_rule 24 = .ok (.tableswitch 94 0 4 #[36, 46, 56, 66, 76], 36) := by decide +kernel
theorem dX11_rule_60 : decode cX11_rule 60 = .ok (.aload_n 0, 1) := by decide +kernel
theorem dX11_rule_61 : decode cX11_rule 61 = .ok (.getfield 40, 3) := by decide +kernel
theorem dX11_rule_64 : decode cX11_rule 64 = .ok (.getfield 154, 3) := by decide +kernel
theorem dX11_rule_67 : decode cX11_rule 67 = .ok (.iload_n 1, 1) := by decide +kernel
theorem dX11_rule_68 : decode cX11_rule 68 = .ok (.iaload, 1) := by decide +kernel
theorem dX11_rule_69 : decode cX11_rule 69 = .ok (.ireturn, 1) := by decide +kernel
theorem dX11_rule_70 : decode cX11_rule 70 = .ok (.aload_n 0, 1) := by decide +kernel
theorem dX11_rule_71 : decode cX11_rule 71 = .ok (.getfield 40, 3) := by decide +kernel
theorem dX11_rule_74 : decode cX11_rule 74 = .ok (.getfield 158, 3) := by decide +kernel
theorem dX11_rule_77 : decode cX11_rule 77 = .ok (.iload_n 1, 1) := by decide +kernel
theorem dX11_rule_78 : decode cX11_rule 78 = .ok (.iaload, 1) := by decide +kernel
theorem dX11_rule_79 : decode cX11_rule 79 = .ok (.ireturn, 1) := by decide +kernel
theorem dX11_rule_80 : decode cX11_rule 80 = .ok (.aload_n 0, 1) := by decide +kernel
theorem dX11_rule_81 : decode cX11_rule 81 = .ok (.getfield 40, 3) := by decide +kernel
theorem dX11_rule_84 : decode cX11_rule 84 = .ok (.getfield 161, 3) := by decide +kernel
theorem dX11_rule_87 : decode cX11_rule 87 = .ok (.iload_n 1, 1) := by decide +kernel
theorem dX11_rule_88 : decode cX11_rule 88 = .ok (.iaload, 1) := by decide +kernel
theorem dX11_rule_89 : decode cX11_rule 89 = .ok (.ireturn, 1) := by decide +kernel
theorem dX11_rule_90 : decode cX11_rule 90 = .ok (.aload_n 0, 1) := by decide +kernel
theorem dX11_rule_91 : decode cX11_rule 91 = .ok (.getfield 40, 3) := by decide +kernel
theorem dX11_rule_94 : decode cX11_rule 94 = .ok (.getfield 164, 3) := by decide +kernel
theorem dX11_rule_97 : decode cX11_rule 97 = .ok (.iload_n 1, 1) := by decide +kernel
theorem dX11_rule_98 : decode cX11_rule 98 = .ok (.iaload, 1) := by decide +kernel
theorem dX11_rule_99 : decode cX11_rule 99 = .ok (.ireturn, 1) := by decide +kernel
theorem dX11_rule_100 : decode cX11_rule 100 = .ok (.aload_n 0, 1) := by decide +kernel
theorem dX11_rule_101 : decode cX11_rule 101 = .ok (.getfield 40, 3) := by decide +kernel
theorem dX11_rule_104 : decode cX11_rule 104 = .ok (.getfield 167, 3) := by decide +kernel
theorem dX11_rule_107 : decode cX11_rule 107 = .ok (.iload_n 1, 1) := by decide +kernel
theorem dX11_rule_108 : decode cX11_rule 108 = .ok (.baload, 1) := by decide +kernel
theorem dX11_rule_109 : decode cX11_rule 109 = .ok (.ifCond .eq 7, 3) := by decide +kernel
theorem dX11_rule_112 : decode cX11_rule 112 = .ok (.iconst 1, 1) := by decide +kernel
theorem dX11_rule_113 : decode cX11_rule 113 = .ok (.goto 4, 3) := by decide +kernel
theorem dX11_rule_116 : decode cX11_rule 116 = .ok (.iconst 0, 1) := by decide +kernel
theorem dX11_rule_117 : decode cX11_rule 117 = .ok (.ireturn, 1) := by decide +kernel
theorem dX11_rule_118 : decode cX11_rule 118 = .ok (.new 151, 3) := by decide +kernel
theorem dX11_rule_121 : decode cX11_rule 121 = .ok (.dup, 1) := by decide +kernel
theorem dX11_rule_122 : decode cX11_rule 122 = .ok (.invokespecial 153, 3) := by decide +kernel
theorem dX11_rule_125 : decode cX11_rule 125 = .ok (.athrow, 1) := by decide +kernel
theorem dX11_at_0 : decode cX11_at 0 = .ok (.aload_n 0, 1) := by decide +kernel
theorem dX11_at_1 : decode cX11_at 1 = .ok (.getfield 33, 3) := by decide +kernel
theorem dX11_at_4 : decode cX11_at 4 = .ok (.getfield 141, 3) := by decide +kernel
theorem dX11_at_7 : decode cX11_at 7 = .ok (.iload_n 1, 1) := by decide +kernel
theorem dX11_at_8 : decode cX11_at 8 = .ok (.invokevirtual 170, 3) := by decide +kernel
theorem dX11_at_11 : decode cX11_at 11 = .ok (.ifCond .ne 11, 3) := by decide +kernel
theorem dX11_at_14 : decode cX11_at 14 = .ok (.new 151, 3) := by decide +kernel
theorem dX11_at_17 : decode cX11_at 17 = .ok (.dup, 1) := by decide +kernel
theorem dX11_at_18 : decode cX11_at 18 = .ok (.invokespecial 153, 3) := by decide +kernel
theorem dX11_at_21 : decode cX11_at 21 = .ok (.athrow, 1) := by decide +kernel
theorem dX11_at_22 : decode cX11_at 22 = .ok (.aload_n 0, 1) := by decide +kernel
theorem dX11_at_23 : decode cX11_at 23 = .ok (.getfield 33, 3) := by decide +kernel
theorem dX11_at_26 : decode cX11_at 26 = .ok (.getfield 141, 3) := by decide +kernel
theorem dX11_at_29 : decode cX11_at 29 = .ok (.iload_n 1, 1) := by decide +kernel
theorem dX11_at_30 : decode cX11_at 30 = .ok (.invokevirtual 173, 3) := by decide +kernel
theorem dX11_at_33 : decode cX11_at 33 = .ok (.ireturn, 1) := by decide +kernel
theorem dX11_sheet_0 : decode cX11_sheet 0 = .ok (.iload_n 1, 1) := by decide +kernel
theorem dX11_sheet_1 : decode cX11_sheet 1 = .ok (.ifCond .lt 14, 3) := by decide +kernel
theorem dX11_sheet_4 : decode cX11_sheet 4 = .ok (.iload_n 1, 1) := by decide +kernel
theorem dX11_sheet_5 : decode cX11_sheet 5 = .ok (.iconst 3, 1) := by decide +kernel
theorem dX11_sheet_6 : decode cX11_sheet 6 = .ok (.if_icmp .gt 9, 3) := by decide +kernel
theorem dX11_sheet_9 : decode cX11_sheet 9 = .ok (.iload_n 2, 1) := by decide +kernel
theorem dX11_sheet_10 : decode cX11_sheet 10 = .ok (.bipush 24, 2) := by decide +kernel
theorem dX11_sheet_12 : decode cX11_sheet 12 = .ok (.if_icmp .le 5, 3) := by decide +kernel
theorem dX11_sheet_15 : decode cX11_sheet 15 = .ok (.iconst (-1), 1) := by decide +kernel
theorem dX11_sheet_16 : decode cX11_sheet 16 = .ok (.ireturn, 1) := by decide +kernel
theorem dX11_sheet_17 : decode cX11_sheet 17 = .ok (.iload_n 1, 1) := by decide +kernel
theorem dX11_sheet_18 : decode cX11_sheet 18 = .ok (.iconst 3, 1) := by decide +kernel
theorem dX11_sheet_19 : decode cX11_sheet 19 = .ok (.if_icmp .ne 21, 3) := by decide +kernel
theorem dX11_sheet_22 : decode cX11_sheet 22 = .ok (.aload_n 0, 1) := by decide +kernel
theorem dX11_sheet_23 : decode cX11_sheet 23 = .ok (.getfield 33, 3) := by decide +kernel
theorem dX11_sheet_26 : decode cX11_sheet 26 = .ok (.getfield 141, 3) := by decide +kernel
theorem dX11_sheet_29 : decode cX11_sheet 29 = .ok (.iconst 0, 1) := by decide +kernel
theorem dX11_sheet_30 : decode cX11_sheet 30 = .ok (.putfield 150, 3) := by decide +kernel
theorem dX11_sheet_33 : decode cX11_sheet 33 = .ok (.aload_n 0, 1) := by decide +kernel
theorem dX11_sheet_34 : decode cX11_sheet 34 = .ok (.invokevirtual 147, 3) := by decide +kernel
theorem dX11_sheet_37 : decode cX11_sheet 37 = .ok (.bipush (-3), 2) := by decide +kernel
theorem dX11_sheet_39 : decode cX11_sheet 39 = .ok (.ireturn, 1) := by decide +kernel
theorem dX11_sheet_40 : decode cX11_sheet 40 = .ok (.iload_n 2, 1) := by decide +kernel
theorem dX11_sheet_41 : decode cX11_sheet 41 = .ok (.ifCond .ge 6, 3) := by decide +kernel
theorem dX11_sheet_44 : decode cX11_sheet 44 = .ok (.bipush (-2), 2) := by decide +kernel
theorem dX11_sheet_46 : decode cX11_sheet 46 = .ok (.ireturn, 1) := by decide +kernel
theorem dX11_sheet_47 : decode cX11_sheet 47 = .ok (.iload_n 3, 1) := by decide +kernel
theorem dX11_sheet_48 : decode cX11_sheet 48 = .ok (.istore 5, 2) := by decide +kernel
theorem dX11_sheet_50 : decode cX11_sheet 50 = .ok (.aload_n 0, 1) := by decide +kernel
theorem dX11_sheet_51 : decode cX11_sheet 51 = .ok (.getfield 33, 3) := by decide +kernel
theorem dX11_sheet_54 : decode cX11_sheet 54 = .ok (.getfield 141, 3) := by decide +kernel
theorem dX11_sheet_57 : decode cX11_sheet 57 = .ok (.iconst 0, 1) := by decide +kernel
theorem dX11_sheet_58 : decode cX11_sheet 58 = .ok (.putfield 150, 3) := by decide +kernel
theorem dX11_sheet_61 : decode cX11_sheet 61 = .ok (.iconst 0, 1) := by decide +kernel
theorem dX11_sheet_62 : decode cX11_sheet 62 = .ok (.istore 6, 2) := by decide +kernel
theorem dX11_sheet_64 : decode cX11_sheet 64 = .ok (.iload 6, 2) := by decide +kernel
theorem dX11_sheet_66 : decode cX11_sheet 66 = .ok (.iload_n 2, 1) := by decide +kernel
theorem dX11_sheet_67 : decode cX11_sheet 67 = .ok (.if_icmp .ge 39, 3) := by decide +kernel
theorem dX11_sheet_70 : decode cX11_sheet 70 = .ok (.aload_n 0, 1) := by decide +kernel
theorem dX11_sheet_71 : decode cX11_sheet 71 = .ok (.getfield 33, 3) := by decide +kernel
theorem dX11_sheet_74 : decode cX11_sheet 74 = .ok (.getfield 141, 3) := by decide +kernel
theorem dX11_sheet_77 : decode cX11_sheet 77 = .ok (.iload 6, 2) := by decide +kernel
theorem dX11_sheet_79 : decode cX11_sheet 79 = .ok (.iload_n 1, 1) := by decide +kernel
theorem dX11_sheet_80 : decode cX11_sheet 80 = .ok (.iload 5, 2) := by decide +kernel
theorem dX11_sheet_82 : decode cX11_sheet 82 = .ok (.invokestatic 177, 3) := by decide +kernel
theorem dX11_sheet_85 : decode cX11_sheet 85 = .ok (.bipush 8, 2) := by decide +kernel
theorem dX11_sheet_87 : decode cX11_sheet 87 = .ok (.invokestatic 181, 3) := by decide +kernel
theorem dX11_sheet_90 : decode cX11_sheet 90 = .ok (.invokevirtual 186, 3) := by decide +kernel
theorem dX11_sheet_93 : decode cX11_sheet 93 = .ok (.iload 5, 2) := by decide +kernel
theorem dX11_sheet_95 : decode cX11_sheet 95 = .ok (.iload 4, 2) := by decide +kernel
theorem dX11_sheet_97 : decode cX11_sheet 97 = .ok (.iadd, 1) := by decide +kernel
theorem dX11_sheet_98 : decode cX11_sheet 98 = .ok (.istore 5, 2) := by decide +kernel
theorem dX11_sheet_100 : decode cX11_sheet 100 = .ok (.iinc 6 1, 3) := by decide +kernel
theorem dX11_sheet_103 : decode cX11_sheet 103 = .ok (.goto (-39), 3) := by decide +kernel
theorem dX11_sheet_106 : decode cX11_sheet 106 = .ok (.aload_n 0, 1) := by decide +kernel
theorem dX11_sheet_107 : decode cX11_sheet 107 = .ok (.invokevirtual 147, 3) := by decide +kernel
theorem dX11_sheet_110 : decode cX11_sheet 110 = .ok (.iload_n 2, 1) := by decide +kernel
theorem dX11_sheet_111 : decode cX11_sheet 111 = .ok (.ireturn, 1) := by decide +kernel
theorem dX11_cut_0 : decode cX11_cut 0 = .ok (.aload_n 0, 1) := by decide +kernel
theorem dX11_cut_1 : decode cX11_cut 1 = .ok (.iconst 0, 1) := by decide +kernel
theorem dX11_cut_2 : decode cX11_cut 2 = .ok (.putfield 100, 3) := by decide +kernel
theorem dX11_cut_5 : decode cX11_cut 5 = .ok (.iconst 0, 1) := by decide +kernel
theorem dX11_cut_6 : decode cX11_cut 6 = .ok (.istore_n 1, 1) := by decide +kernel
theorem dX11_cut_7 : decode cX11_cut 7 = .ok (.iload_n 1, 1) := by decide +kernel
theorem dX11_cut_8 : decode cX11_cut 8 = .ok (.aload_n 0, 1) := by decide +kernel
theorem dX11_cut_9 : decode cX11_cut 9 = .ok (.getfield 47, 3) := by decide +kernel
theorem dX11_cut_12 : decode cX11_cut 12 = .ok (.getfield 190, 3) := by decide +kernel
theorem dX11_cut_15 : decode cX11_cut 15 = .ok (.if_icmp .ge 23, 3) := by decide +kernel
theorem dX11_cut_18 : decode cX11_cut 18 = .ok (.aload_n 0, 1) := by decide +kernel
theorem dX11_cut_19 : decode cX11_cut 19 = .ok (.aload_n 0, 1) := by decide +kernel
theorem dX11_cut_20 : decode cX11_cut 20 = .ok (.getfield 47, 3) := by decide +kernel
theorem dX11_cut_23 : decode cX11_cut 23 = .ok (.getfield 193, 3) := by decide +kernel
theorem dX11_cut_26 : decode cX11_cut 26 = .ok (.iload_n 1, 1) := by decide +kernel
theorem dX11_cut_27 : decode cX11_cut 27 = .ok (.iaload, 1) := by decide +kernel
theorem dX11_cut_28 : decode cX11_cut 28 = .ok (.i2l, 1) := by decide +kernel
theorem dX11_cut_29 : decode cX11_cut 29 = .ok (.invokevirtual 196, 3) := by decide +kernel
theorem dX11_cut_32 : decode cX11_cut 32 = .ok (.iinc 1 1, 3) := by decide +kernel
theorem dX11_cut_35 : decode cX11_cut 35 = .ok (.goto (-28), 3) := by decide +kernel
theorem dX11_cut_38 : decode cX11_cut 38 = .ok (.aload_n 0, 1) := by decide +kernel
theorem dX11_cut_39 : decode cX11_cut 39 = .ok (.getfield 47, 3) := by decide +kernel
theorem dX11_cut_42 : decode cX11_cut 42 = .ok (.getfield 190, 3) := by decide +kernel
theorem dX11_cut_45 : decode cX11_cut 45 = .ok (.ireturn, 1) := by decide +kernel
theorem dX11_token_0 : decode cX11_token 0 = .ok (.iload_n 1, 1) := by decide +kernel
theorem dX11_token_1 : decode cX11_token 1 = .ok (.ifCond .lt 14, 3) := by decide +kernel
theorem dX11_token_4 : decode cX11_token 4 = .ok (.iload_n 1, 1) := by decide +kernel
theorem dX11_token_5 : decode cX11_token 5 = .ok (.aload_n 0, 1) := by decide +kernel
theorem dX11_token_6 : decode cX11_token 6 = .ok (.getfield 47, 3) := by decide +kernel
theorem dX11_token_9 : decode cX11_token 9 = .ok (.getfield 190, 3) := by decide +kernel
theorem dX11_token_12 : decode cX11_token 12 = .ok (.if_icmp .lt 11, 3) := by decide +kernel
theorem dX11_token_15 : decode cX11_token 15 = .ok (.new 151, 3) := by decide +kernel
theorem dX11_token_18 : decode cX11_token 18 = .ok (.dup, 1) := by decide +kernel
theorem dX11_token_19 : decode cX11_token 19 = .ok (.invokespecial 153, 3) := by decide +kernel
theorem dX11_token_22 : decode cX11_token 22 = .ok (.athrow, 1) := by decide +kernel
theorem dX11_token_23 : decode cX11_token 23 = .ok (.iload_n 2, 1) := by decide +kernel
theorem dX11_token_24 : decode cX11_token 24 = .ok (.tableswitch 99 0 5 #[40, 50, 60, 70, 79, 89], 40) := by decide +kernel
theorem dX11_token_64 : decode cX11_token 64 = .ok (.aload_n 0, 1) := by decide +kernel
theorem dX11_token_65 : decode cX11_token 65 = .ok (.getfield 47, 3) := by decide +kernel
theorem dX11_token_68 : decode cX11_token 68 = .ok (.getfield 200, 3) := by decide +kernel
theorem dX11_token_71 : decode cX11_token 71 = .ok (.iload_n 1, 1) := by decide +kernel
theorem dX11_token_72 : decode cX11_token 72 = .ok (.iaload, 1) := by decide +kernel
theorem dX11_token_73 : decode cX11_token 73 = .ok (.ireturn, 1) := by decide +kernel
theorem dX11_token_74 : decode cX11_token 74 = .ok (.aload_n 0, 1) := by decide +kernel
theorem dX11_token_75 : decode cX11_token 75 = .ok (.getfield 47, 3) := by decide +kernel
theorem dX11_token_78 : decode cX11_token 78 = .ok (.getfield 203, 3) := by decide +kernel
theorem dX11_token_81 : decode cX11_token 81 = .ok (.iload_n 1, 1) := by decide +kernel
theorem dX11_token_82 : decode cX11_token 82 = .ok (.iaload, 1) := by decide +kernel
theorem dX11_token_83 : decode cX11_token 83 = .ok (.ireturn, 1) := by decide +kernel
theorem dX11_token_84 : decode cX11_token 84 = .ok (.aload_n 0, 1) := by decide +kernel
theorem dX11_token_85 : decode cX11_token 85 = .ok (.getfield 47, 3) := by decide +kernel
theorem dX11_token_88 : decode cX11_token 88 = .ok (.getfield 193, 3) := by decide +kernel
theorem dX11_token_91 : decode cX11_token 91 = .ok (.iload_n 1, 1) := by decide +kernel
theorem dX11_token_92 : decode cX11_token 92 = .ok (.iaload, 1) := by decide +kernel
theorem dX11_token_93 : decode cX11_token 93 = .ok (.ireturn, 1) := by decide +kernel
theorem dX11_token_94 : decode cX11_token 94 = .ok (.aload_n 0, 1) := by decide +kernel
theorem dX11_token_95 : decode cX11_token 95 = .ok (.getfield 47, 3) := by decide +kernel
theorem dX11_token_98 : decode cX11_token 98 = .ok (.iload_n 1, 1) := by decide +kernel
theorem dX11_token_99 : decode cX11_token 99 = .ok (.invokevirtual 206, 3) := by decide +kernel
theorem dX11_token_102 : decode cX11_token 102 = .ok (.ireturn, 1) := by decide +kernel
theorem dX11_token_103 : decode cX11_token 103 = .ok (.aload_n 0, 1) := by decide +kernel
theorem dX11_token_104 : decode cX11_token 104 = .ok (.getfield 47, 3) := by decide +kernel
theorem dX11_token_107 : decode cX11_token 107 = .ok (.getfield 209, 3) := by decide +kernel
theorem dX11_token_110 : decode cX11_token 110 = .ok (.iload_n 1, 1) := by decide +kernel
theorem dX11_token_111 : decode cX11_token 111 = .ok (.iaload, 1) := by decide +kernel
theorem dX11_token_112 : decode cX11_token 112 = .ok (.ireturn, 1) := by decide +kernel
theorem dX11_token_113 : decode cX11_token 113 = .ok (.aload_n 0, 1) := by decide +kernel
theorem dX11_token_114 : decode cX11_token 114 = .ok (.getfield 47, 3) := by decide +kernel
theorem dX11_token_117 : decode cX11_token 117 = .ok (.getfield 210, 3) := by decide +kernel
theorem dX11_token_120 : decode cX11_token 120 = .ok (.iload_n 1, 1) := by decide +kernel
theorem dX11_token_121 : decode cX11_token 121 = .ok (.iaload, 1) := by decide +kernel
theorem dX11_token_122 : decode cX11_token 122 = .ok (.ireturn, 1) := by decide +kernel
theorem dX11_token_123 : decode cX11_token 123 = .ok (.new 151, 3) := by decide +kernel
theorem dX11_token_126 : decode cX11_token 126 = .ok (.dup, 1) := by decide +kernel
theorem dX11_token_127 : decode cX11_token 127 = .ok (.invokespecial 153, 3) := by decide +kernel
theorem dX11_token_130 : decode cX11_token 130 = .ok (.athrow, 1) := by decide +kernel
theorem dX11_modes_0 : decode cX11_modes 0 = .ok (.iload_n 1, 1) := by decide +kernel
theorem dX11_modes_1 : decode cX11_modes 1 = .ok (.iconst (-1), 1) := by decide +kernel
theorem dX11_modes_2 : decode cX11_modes 2 = .ok (.if_icmp .lt 14, 3) := by decide +kernel
theorem dX11_modes_5 : decode cX11_modes 5 = .ok (.iload_n 1, 1) := by decide +kernel
theorem dX11_modes_6 : decode cX11_modes 6 = .ok (.aload_n 0, 1) := by decide +kernel
theorem dX11_modes_7 : decode cX11_modes 7 = .ok (.getfield 47, 3) := by decide +kernel
theorem dX11_modes_10 : decode cX11_modes 10 = .ok (.getfield 190, 3) := by decide +kernel
theorem dX11_modes_13 : decode cX11_modes 13 = .ok (.if_icmp .lt 6, 3) := by decide +kernel
theorem dX11_modes_16 : decode cX11_modes 16 = .ok (.bipush (-2), 2) := by decide +kernel
theorem dX11_modes_18 : decode cX11_modes 18 = .ok (.ireturn, 1) := by decide +kernel
theorem dX11_modes_19 : decode cX11_modes 19 = .ok (.iload_n 1, 1) := by decide +kernel
theorem dX11_modes_20 : decode cX11_modes 20 = .ok (.iconst (-1), 1) := by decide +kernel
theorem dX11_modes_21 : decode cX11_modes 21 = .ok (.if_icmp .ne 7, 3) := by decide +kernel
theorem dX11_modes_24 : decode cX11_modes 24 = .ok (.iconst 1, 1) := by decide +kernel
theorem dX11_modes_25 : decode cX11_modes 25 = .ok (.goto 12, 3) := by decide +kernel
theorem dX11_modes_28 : decode cX11_modes 28 = .ok (.aload_n 0, 1) := by decide +kernel
theorem dX11_modes_29 : decode cX11_modes 29 = .ok (.getfield 47, 3) := by decide +kernel
theorem dX11_modes_32 : decode cX11_modes 32 = .ok (.getfield 210, 3) := by decide +kernel
theorem dX11_modes_35 : decode cX11_modes 35 = .ok (.iload_n 1, 1) := by decide +kernel
theorem dX11_modes_36 : decode cX11_modes 36 = .ok (.iaload, 1) := by decide +kernel
theorem dX11_modes_37 : decode cX11_modes 37 = .ok (.istore_n 2, 1) := by decide +kernel
theorem dX11_modes_38 : decode cX11_modes 38 = .ok (.iload_n 1, 1) := by decide +kernel
theorem dX11_modes_39 : decode cX11_modes 39 = .ok (.iconst (-1), 1) := by decide +kernel
theorem dX11_modes_40 : decode cX11_modes 40 = .ok (.if_icmp .ne 7, 3) := by decide +kernel
theorem dX11_modes_43 : decode cX11_modes 43 = .ok (.iconst 0, 1) := by decide +kernel
theorem dX11_modes_44 : decode cX11_modes 44 = .ok (.goto 12, 3) := by decide +kernel
theorem dX11_modes_47 : decode cX11_modes 47 = .ok (.aload_n 0, 1) := by decide +kernel
theorem dX11_modes_48 : decode cX11_modes 48 = .ok (.getfield 47, 3) := by decide +kernel
theorem dX11_modes_51 : decode cX11_modes 51 = .ok (.getfield 213, 3) := by decide +kernel
theorem dX11_modes_54 : decode cX11_modes 54 = .ok (.iload_n 1, 1) := by decide +kernel
theorem dX11_modes_55 : decode cX11_modes 55 = .ok (.iaload, 1) := by decide +kernel
theorem dX11_modes_56 : decode cX11_modes 56 = .ok (.istore_n 3, 1) := by decide +kernel
theorem dX11_modes_57 : decode cX11_modes 57 = .ok (.aload_n 0, 1) := by decide +kernel
theorem dX11_modes_58 : decode cX11_modes 58 = .ok (.iconst 0, 1) := by decide +kernel
theorem dX11_modes_59 : decode cX11_modes 59 = .ok (.putfield 100, 3) := by decide +kernel
theorem dX11_modes_62 : decode cX11_modes 62 = .ok (.iload_n 2, 1) := by decide +kernel
theorem dX11_modes_63 : decode cX11_modes 63 = .ok (.iconst 1, 1) := by decide +kernel
theorem dX11_modes_64 : decode cX11_modes 64 = .ok (.isub, 1) := by decide +kernel
theorem dX11_modes_65 : decode cX11_modes 65 = .ok (.istore 4, 2) := by decide +kernel
theorem dX11_modes_67 : decode cX11_modes 67 = .ok (.iload 4, 2) := by decide +kernel
theorem dX11_modes_69 : decode cX11_modes 69 = .ok (.ifCond .lt 22, 3) := by decide +kernel
theorem dX11_modes_72 : decode cX11_modes 72 = .ok (.aload_n 0, 1) := by decide +kernel
theorem dX11_modes_73 : decode cX11_modes 73 = .ok (.iload_n 3, 1) := by decide +kernel
theorem dX11_modes_74 : decode cX11_modes 74 = .ok (.iconst 2, 1) := by decide +kernel
theorem dX11_modes_75 : decode cX11_modes 75 = .ok (.iload 4, 2) := by decide +kernel
theorem dX11_modes_77 : decode cX11_modes 77 = .ok (.imul, 1) := by decide +kernel
theorem dX11_modes_78 : decode cX11_modes 78 = .ok (.ishr, 1) := by decide +kernel
theorem dX11_modes_79 : decode cX11_modes 79 = .ok (.iconst 3, 1) := by decide +kernel
theorem dX11_modes_80 : decode cX11_modes 80 = .ok (.iand, 1) := by decide +kernel
theorem dX11_modes_81 : decode cX11_modes 81 = .ok (.i2l, 1) := by decide +kernel
theorem dX11_modes_82 : decode cX11_modes 82 = .ok (.invokevirtual 196, 3) := by decide +kernel
theorem dX11_modes_85 : decode cX11_modes 85 = .ok (.iinc 4 (-1), 3) := by decide +kernel
theorem dX11_modes_88 : decode cX11_modes 88 = .ok (.goto (-21), 3) := by decide +kernel
theorem dX11_modes_91 : decode cX11_modes 91 = .ok (.iload_n 2, 1) := by decide +kernel
theorem dX11_modes_92 : decode cX11_modes 92 = .ok (.ireturn, 1) := by decide +kernel
theorem dX11_holds_0 : decode cX11_holds 0 = .ok (.aload_n 0, 1) := by decide +kernel
theorem dX11_holds_1 : decode cX11_holds 1 = .ok (.getfield 47, 3) := by decide +kernel
theorem dX11_holds_4 : decode cX11_holds 4 = .ok (.iload_n 1, 1) := by decide +kernel
theorem dX11_holds_5 : decode cX11_holds 5 = .ok (.invokevirtual 216, 3) := by decide +kernel
theorem dX11_holds_8 : decode cX11_holds 8 = .ok (.ireturn, 1) := by decide +kernel
theorem dX11_stuck_0 : decode cX11_stuck 0 = .ok (.aload_n 0, 1) := by decide +kernel
theorem dX11_stuck_1 : decode cX11_stuck 1 = .ok (.iconst 0, 1) := by decide +kernel
theorem dX11_stuck_2 : decode cX11_stuck 2 = .ok (.putfield 100, 3) := by decide +kernel
theorem dX11_stuck_5 : decode cX11_stuck 5 = .ok (.iconst 0, 1) := by decide +kernel
theorem dX11_stuck_6 : decode cX11_stuck 6 = .ok (.istore_n 1, 1) := by decide +kernel
theorem dX11_stuck_7 : decode cX11_stuck 7 = .ok (.iload_n 1, 1) := by decide +kernel
theorem dX11_stuck_8 : decode cX11_stuck 8 = .ok (.aload_n 0, 1) := by decide +kernel
theorem dX11_stuck_9 : decode cX11_stuck 9 = .ok (.getfield 47, 3) := by decide +kernel
theorem dX11_stuck_12 : decode cX11_stuck 12 = .ok (.getfield 190, 3) := by decide +kernel
theorem dX11_stuck_15 : decode cX11_stuck 15 = .ok (.if_icmp .ge 50, 3) := by decide +kernel
theorem dX11_stuck_18 : decode cX11_stuck 18 = .ok (.aload_n 0, 1) := by decide +kernel
theorem dX11_stuck_19 : decode cX11_stuck 19 = .ok (.getfield 47, 3) := by decide +kernel
theorem dX11_stuck_22 : decode cX11_stuck 22 = .ok (.getfield 200, 3) := by decide +kernel
theorem dX11_stuck_25 : decode cX11_stuck 25 = .ok (.iload_n 1, 1) := by decide +kernel
theorem dX11_stuck_26 : decode cX11_stuck 26 = .ok (.iaload, 1) := by decide +kernel
theorem dX11_stuck_27 : decode cX11_stuck 27 = .ok (.iconst (-1), 1) := by decide +kernel
theorem dX11_stuck_28 : decode cX11_stuck 28 = .ok (.if_icmp .ne 31, 3) := by decide +kernel
theorem dX11_stuck_31 : decode cX11_stuck 31 = .ok (.aload_n 0, 1) := by decide +kernel
theorem dX11_stuck_32 : decode cX11_stuck 32 = .ok (.aload_n 0, 1) := by decide +kernel
theorem dX11_stuck_33 : decode cX11_stuck 33 = .ok (.getfield 47, 3) := by decide +kernel
theorem dX11_stuck_36 : decode cX11_stuck 36 = .ok (.getfield 203, 3) := by decide +kernel
theorem dX11_stuck_39 : decode cX11_stuck 39 = .ok (.iload_n 1, 1) := by decide +kernel
theorem dX11_stuck_40 : decode cX11_stuck 40 = .ok (.iaload, 1) := by decide +kernel
theorem dX11_stuck_41 : decode cX11_stuck 41 = .ok (.i2l, 1) := by decide +kernel
theorem dX11_stuck_42 : decode cX11_stuck 42 = .ok (.invokevirtual 196, 3) := by decide +kernel
theorem dX11_stuck_45 : decode cX11_stuck 45 = .ok (.aload_n 0, 1) := by decide +kernel
theorem dX11_stuck_46 : decode cX11_stuck 46 = .ok (.aload_n 0, 1) := by decide +kernel
theorem dX11_stuck_47 : decode cX11_stuck 47 = .ok (.getfield 47, 3) := by decide +kernel
theorem dX11_stuck_50 : decode cX11_stuck 50 = .ok (.getfield 219, 3) := by decide +kernel
theorem dX11_stuck_53 : decode cX11_stuck 53 = .ok (.iload_n 1, 1) := by decide +kernel
theorem dX11_stuck_54 : decode cX11_stuck 54 = .ok (.iaload, 1) := by decide +kernel
theorem dX11_stuck_55 : decode cX11_stuck 55 = .ok (.i2l, 1) := by decide +kernel
theorem dX11_stuck_56 : decode cX11_stuck 56 = .ok (.invokevirtual 196, 3) := by decide +kernel
theorem dX11_stuck_59 : decode cX11_stuck 59 = .ok (.iinc 1 1, 3) := by decide +kernel
theorem dX11_stuck_62 : decode cX11_stuck 62 = .ok (.goto (-55), 3) := by decide +kernel
theorem dX11_stuck_65 : decode cX11_stuck 65 = .ok (.aload_n 0, 1) := by decide +kernel
theorem dX11_stuck_66 : decode cX11_stuck 66 = .ok (.getfield 47, 3) := by decide +kernel
theorem dX11_stuck_69 : decode cX11_stuck 69 = .ok (.invokevirtual 222, 3) := by decide +kernel
theorem dX11_stuck_72 : decode cX11_stuck 72 = .ok (.ireturn, 1) := by decide +kernel
theorem dX11_by_0 : decode cX11_by 0 = .ok (.iload_n 1, 1) := by decide +kernel
theorem dX11_by_1 : decode cX11_by 1 = .ok (.iconst (-1), 1) := by decide +kernel
theorem dX11_by_2 : decode cX11_by 2 = .ok (.if_icmp .lt 14, 3) := by decide +kernel
theorem dX11_by_5 : decode cX11_by 5 = .ok (.iload_n 1, 1) := by decide +kernel
theorem dX11_by_6 : decode cX11_by 6 = .ok (.aload_n 0, 1) := by decide +kernel
theorem dX11_by_7 : decode cX11_by 7 = .ok (.getfield 40, 3) := by decide +kernel
theorem dX11_by_10 : decode cX11_by 10 = .ok (.getfield 135, 3) := by decide +kernel
theorem dX11_by_13 : decode cX11_by 13 = .ok (.if_icmp .lt 6, 3) := by decide +kernel
theorem dX11_by_16 : decode cX11_by 16 = .ok (.bipush (-2), 2) := by decide +kernel
theorem dX11_by_18 : decode cX11_by 18 = .ok (.ireturn, 1) := by decide +kernel
theorem dX11_by_19 : decode cX11_by 19 = .ok (.aload_n 0, 1) := by decide +kernel
theorem dX11_by_20 : decode cX11_by 20 = .ok (.iconst 0, 1) := by decide +kernel
theorem dX11_by_21 : decode cX11_by 21 = .ok (.putfield 100, 3) := by decide +kernel
theorem dX11_by_24 : decode cX11_by 24 = .ok (.iconst 0, 1) := by decide +kernel
theorem dX11_by_25 : decode cX11_by 25 = .ok (.istore_n 2, 1) := by decide +kernel
theorem dX11_by_26 : decode cX11_by 26 = .ok (.iload_n 2, 1) := by decide +kernel
theorem dX11_by_27 : decode cX11_by 27 = .ok (.aload_n 0, 1) := by decide +kernel
theorem dX11_by_28 : decode cX11_by 28 = .ok (.getfield 47, 3) := by decide +kernel
theorem dX11_by_31 : decode cX11_by 31 = .ok (.getfield 190, 3) := by decide +kernel
theorem dX11_by_34 : decode cX11_by 34 = .ok (.if_icmp .ge 28, 3) := by decide +kernel
theorem dX11_by_37 : decode cX11_by 37 = .ok (.aload_n 0, 1) := by decide +kernel
theorem dX11_by_38 : decode cX11_by 38 = .ok (.getfield 47, 3) := by decide +kernel
theorem dX11_by_41 : decode cX11_by 41 = .ok (.getfield 200, 3) := by decide +kernel
theorem dX11_by_44 : decode cX11_by 44 = .ok (.iload_n 2, 1) := by decide +kernel
theorem dX11_by_45 : decode cX11_by 45 = .ok (.iaload, 1) := by decide +kernel
theorem dX11_by_46 : decode cX11_by 46 = .ok (.iload_n 1, 1) := by decide +kernel
theorem dX11_by_47 : decode cX11_by 47 = .ok (.if_icmp .ne 9, 3) := by decide +kernel
theorem dX11_by_50 : decode cX11_by 50 = .ok (.aload_n 0, 1) := by decide +kernel
theorem dX11_by_51 : decode cX11_by 51 = .ok (.iload_n 2, 1) := by decide +kernel
theorem dX11_by_52 : decode cX11_by 52 = .ok (.i2l, 1) := by decide +kernel
theorem dX11_by_53 : decode cX11_by 53 = .ok (.invokevirtual 196, 3) := by decide +kernel
theorem dX11_by_56 : decode cX11_by 56 = .ok (.iinc 2 1, 3) := by decide +kernel
theorem dX11_by_59 : decode cX11_by 59 = .ok (.goto (-33), 3) := by decide +kernel
theorem dX11_by_62 : decode cX11_by 62 = .ok (.aload_n 0, 1) := by decide +kernel
theorem dX11_by_63 : decode cX11_by 63 = .ok (.getfield 100, 3) := by decide +kernel
theorem dX11_by_66 : decode cX11_by 66 = .ok (.ireturn, 1) := by decide +kernel
theorem dX11_like_0 : decode cX11_like 0 = .ok (.iload_n 1, 1) := by decide +kernel
theorem dX11_like_1 : decode cX11_like 1 = .ok (.ifCond .lt 8, 3) := by decide +kernel
theorem dX11_like_4 : decode cX11_like 4 = .ok (.iload_n 1, 1) := by decide +kernel
theorem dX11_like_5 : decode cX11_like 5 = .ok (.iconst 2, 1) := by decide +kernel
theorem dX11_like_6 : decode cX11_like 6 = .ok (.if_icmp .lt 5, 3) := by decide +kernel
theorem dX11_like_9 : decode cX11_like 9 = .ok (.iconst (-1), 1) := by decide +kernel
theorem dX11_like_10 : decode cX11_like 10 = .ok (.ireturn, 1) := by decide +kernel
theorem dX11_like_11 : decode cX11_like 11 = .ok (.aload_n 0, 1) := by decide +kernel
theorem dX11_like_12 : decode cX11_like 12 = .ok (.getfield 92, 3) := by decide +kernel
theorem dX11_like_15 : decode cX11_like 15 = .ok (.iload_n 1, 1) := by decide +kernel
theorem dX11_like_16 : decode cX11_like 16 = .ok (.aaload, 1) := by decide +kernel
theorem dX11_like_17 : decode cX11_like 17 = .ok (.astore_n 2, 1) := by decide +kernel
theorem dX11_like_18 : decode cX11_like 18 = .ok (.aload_n 2, 1) := by decide +kernel
theorem dX11_like_19 : decode cX11_like 19 = .ok (.ifnonnull 6, 3) := by decide +kernel
theorem dX11_like_22 : decode cX11_like 22 = .ok (.bipush (-2), 2) := by decide +kernel
theorem dX11_like_24 : decode cX11_like 24 = .ok (.ireturn, 1) := by decide +kernel
theorem dX11_like_25 : decode cX11_like 25 = .ok (.aload_n 0, 1) := by decide +kernel
theorem dX11_like_26 : decode cX11_like 26 = .ok (.getfield 26, 3) := by decide +kernel
theorem dX11_like_29 : decode cX11_like 29 = .ok (.aload_n 0, 1) := by decide +kernel
theorem dX11_like_30 : decode cX11_like 30 = .ok (.getfield 51, 3) := by decide +kernel
theorem dX11_like_33 : decode cX11_like 33 = .ok (.aload_n 2, 1) := by decide +kernel
theorem dX11_like_34 : decode cX11_like 34 = .ok (.invokevirtual 226, 3) := by decide +kernel
theorem dX11_like_37 : decode cX11_like 37 = .ok (.aload_n 0, 1) := by decide +kernel
theorem dX11_like_38 : decode cX11_like 38 = .ok (.getfield 61, 3) := by decide +kernel
theorem dX11_like_41 : decode cX11_like 41 = .ok (.aload_n 0, 1) := by decide +kernel
theorem dX11_like_42 : decode cX11_like 42 = .ok (.getfield 51, 3) := by decide +kernel
theorem dX11_like_45 : decode cX11_like 45 = .ok (.aload_n 0, 1) := by decide +kernel
theorem dX11_like_46 : decode cX11_like 46 = .ok (.getfield 33, 3) := by decide +kernel
theorem dX11_like_49 : decode cX11_like 49 = .ok (.getfield 141, 3) := by decide +kernel
theorem dX11_like_52 : decode cX11_like 52 = .ok (.invokevirtual 230, 3) := by decide +kernel
theorem dX11_like_55 : decode cX11_like 55 = .ok (.aload_n 0, 1) := by decide +kernel
theorem dX11_like_56 : decode cX11_like 56 = .ok (.iconst 0, 1) := by decide +kernel
theorem dX11_like_57 : decode cX11_like 57 = .ok (.putfield 100, 3) := by decide +kernel
theorem dX11_like_60 : decode cX11_like 60 = .ok (.aload_n 0, 1) := by decide +kernel
theorem dX11_like_61 : decode cX11_like 61 = .ok (.aload_n 0, 1) := by decide +kernel
theorem dX11_like_62 : decode cX11_like 62 = .ok (.getfield 61, 3) := by decide +kernel
theorem dX11_like_65 : decode cX11_like 65 = .ok (.getfield 190, 3) := by decide +kernel
theorem dX11_like_68 : decode cX11_like 68 = .ok (.i2l, 1) := by decide +kernel
theorem dX11_like_69 : decode cX11_like 69 = .ok (.invokevirtual 196, 3) := by decide +kernel
theorem dX11_like_72 : decode cX11_like 72 = .ok (.aload_n 0, 1) := by decide +kernel
theorem dX11_like_73 : decode cX11_like 73 = .ok (.aload_n 0, 1) := by decide +kernel
theorem dX11_like_74 : decode cX11_like 74 = .ok (.getfield 61, 3) := by decide +kernel
theorem dX11_like_77 : decode cX11_like 77 = .ok (.invokevirtual 222, 3) := by decide +kernel
theorem dX11_like_80 : decode cX11_like 80 = .ok (.i2l, 1) := by decide +kernel
theorem dX11_like_81 : decode cX11_like 81 = .ok (.invokevirtual 196, 3) := by decide +kernel
theorem dX11_like_84 : decode cX11_like 84 = .ok (.aload_n 0, 1) := by decide +kernel
theorem dX11_like_85 : decode cX11_like 85 = .ok (.getfield 47, 3) := by decide +kernel
theorem dX11_like_88 : decode cX11_like 88 = .ok (.aload_n 0, 1) := by decide +kernel
theorem dX11_like_89 : decode cX11_like 89 = .ok (.getfield 61, 3) := by decide +kernel
theorem dX11_like_92 : decode cX11_like 92 = .ok (.invokevirtual 234, 3) := by decide +kernel
theorem dX11_like_95 : decode cX11_like 95 = .ok (.ireturn, 1) := by decide +kernel
theorem dX11_moded_0 : decode cX11_moded 0 = .ok (.iload_n 1, 1) := by decide +kernel
theorem dX11_moded_1 : decode cX11_moded 1 = .ok (.invokestatic 238, 3) := by decide +kernel
theorem dX11_moded_4 : decode cX11_moded 4 = .ok (.ifCond .ne 5, 3) := by decide +kernel
theorem dX11_moded_7 : decode cX11_moded 7 = .ok (.iconst (-1), 1) := by decide +kernel
theorem dX11_moded_8 : decode cX11_moded 8 = .ok (.ireturn, 1) := by decide +kernel
theorem dX11_moded_9 : decode cX11_moded 9 = .ok (.iconst 0, 1) := by decide +kernel
theorem dX11_moded_10 : decode cX11_moded 10 = .ok (.istore_n 2, 1) := by decide +kernel
theorem dX11_moded_11 : decode cX11_moded 11 = .ok (.iconst 0, 1) := by decide +kernel
theorem dX11_moded_12 : decode cX11_moded 12 = .ok (.istore_n 3, 1) := by decide +kernel
theorem dX11_moded_13 : decode cX11_moded 13 = .ok (.iconst 0, 1) := by decide +kernel
theorem dX11_moded_14 : decode cX11_moded 14 = .ok (.istore 4, 2) := by decide +kernel
theorem dX11_moded_16 : decode cX11_moded 16 = .ok (.iconst 0, 1) := by decide +kernel
theorem dX11_moded_17 : decode cX11_moded 17 = .ok (.istore 5, 2) := by decide +kernel
theorem dX11_moded_19 : decode cX11_moded 19 = .ok (.iload 5, 2) := by decide +kernel
theorem dX11_moded_21 : decode cX11_moded 21 = .ok (.aload_n 0, 1) := by decide +kernel
theorem dX11_moded_22 : decode cX11_moded 22 = .ok (.getfield 47, 3) := by decide +kernel
theorem dX11_moded_25 : decode cX11_moded 25 = .ok (.getfield 190, 3) := by decide +kernel
theorem dX11_moded_28 : decode cX11_moded 28 = .ok (.if_icmp .ge 74, 3) := by decide +kernel
theorem dX11_moded_31 : decode cX11_moded 31 = .ok (.aload_n 0, 1) := by decide +kernel
theorem dX11_moded_32 : decode cX11_moded 32 = .ok (.getfield 47, 3) := by decide +kernel
theorem dX11_moded_35 : decode cX11_moded 35 = .ok (.getfield 209, 3) := by decide +kernel
theorem dX11_moded_38 : decode cX11_moded 38 = .ok (.iload 5, 2) := by decide +kernel
theorem dX11_moded_40 : decode cX11_moded 40 = .ok (.iaload, 1) := by decide +kernel
theorem dX11_moded_41 : decode cX11_moded 41 = .ok (.iload_n 1, 1) := by decide +kernel
theorem dX11_moded_42 : decode cX11_moded 42 = .ok (.if_icmp .ne 54, 3) := by decide +kernel
theorem dX11_moded_45 : decode cX11_moded 45 = .ok (.iinc 2 1, 3) := by decide +kernel
theorem dX11_moded_48 : decode cX11_moded 48 = .ok (.iload_n 3, 1) := by decide +kernel
theorem dX11_moded_49 : decode cX11_moded 49 = .ok (.aload_n 0, 1) := by decide +kernel
theorem dX11_moded_50 : decode cX11_moded 50 = .ok (.getfield 47, 3) := by decide +kernel
theorem dX11_moded_53 : decode cX11_moded 53 = .ok (.getfield 193, 3) := by decide +kernel
theorem dX11_moded_56 : decode cX11_moded 56 = .ok (.iload 5, 2) := by decide +kernel
theorem dX11_moded_58 : decode cX11_moded 58 = .ok (.iaload, 1) := by decide +kernel
theorem dX11_moded_59 : decode cX11_moded 59 = .ok (.aload_n 0, 1) := by decide +kernel
theorem dX11_moded_60 : decode cX11_moded 60 = .ok (.getfield 47, 3) := by decide +kernel
theorem dX11_moded_63 : decode cX11_moded 63 = .ok (.getfield 203, 3) := by decide +kernel
theorem dX11_moded_66 : decode cX11_moded 66 = .ok (.iload 5, 2) := by decide +kernel
theorem dX11_moded_68 : decode cX11_moded 68 = .ok (.iaload, 1) := by decide +kernel
theorem dX11_moded_69 : decode cX11_moded 69 = .ok (.isub, 1) := by decide +kernel
theorem dX11_moded_70 : decode cX11_moded 70 = .ok (.iadd, 1) := by decide +kernel
theorem dX11_moded_71 : decode cX11_moded 71 = .ok (.istore_n 3, 1) := by decide +kernel
theorem dX11_moded_72 : decode cX11_moded 72 = .ok (.iload 4, 2) := by decide +kernel
theorem dX11_moded_74 : decode cX11_moded 74 = .ok (.aload_n 0, 1) := by decide +kernel
theorem dX11_moded_75 : decode cX11_moded 75 = .ok (.getfield 47, 3) := by decide +kernel
theorem dX11_moded_78 : decode cX11_moded 78 = .ok (.getfield 200, 3) := by decide +kernel
theorem dX11_moded_81 : decode cX11_moded 81 = .ok (.iload 5, 2) := by decide +kernel
theorem dX11_moded_83 : decode cX11_moded 83 = .ok (.iaload, 1) := by decide +kernel
theorem dX11_moded_84 : decode cX11_moded 84 = .ok (.iconst (-1), 1) := by decide +kernel
theorem dX11_moded_85 : decode cX11_moded 85 = .ok (.if_icmp .ne 7, 3) := by decide +kernel
theorem dX11_moded_88 : decode cX11_moded 88 = .ok (.iconst 1, 1) := by decide +kernel
theorem dX11_moded_89 : decode cX11_moded 89 = .ok (.goto 4, 3) := by decide +kernel
theorem dX11_moded_92 : decode cX11_moded 92 = .ok (.iconst 0, 1) := by decide +kernel
theorem dX11_moded_93 : decode cX11_moded 93 = .ok (.iadd, 1) := by decide +kernel
theorem dX11_moded_94 : decode cX11_moded 94 = .ok (.istore 4, 2) := by decide +kernel
theorem dX11_moded_96 : decode cX11_moded 96 = .ok (.iinc 5 1, 3) := by decide +kernel
theorem dX11_moded_99 : decode cX11_moded 99 = .ok (.goto (-80), 3) := by decide +kernel
theorem dX11_moded_102 : decode cX11_moded 102 = .ok (.aload_n 0, 1) := by decide +kernel
theorem dX11_moded_103 : decode cX11_moded 103 = .ok (.iconst 0, 1) := by decide +kernel
theorem dX11_moded_104 : decode cX11_moded 104 = .ok (.putfield 100, 3) := by decide +kernel
theorem dX11_moded_107 : decode cX11_moded 107 = .ok (.aload_n 0, 1) := by decide +kernel
theorem dX11_moded_108 : decode cX11_moded 108 = .ok (.iload_n 3, 1) := by decide +kernel
theorem dX11_moded_109 : decode cX11_moded 109 = .ok (.i2l, 1) := by decide +kernel
theorem dX11_moded_110 : decode cX11_moded 110 = .ok (.invokevirtual 196, 3) := by decide +kernel
theorem dX11_moded_113 : decode cX11_moded 113 = .ok (.aload_n 0, 1) := by decide +kernel
theorem dX11_moded_114 : decode cX11_moded 114 = .ok (.iload 4, 2) := by decide +kernel
theorem dX11_moded_116 : decode cX11_moded 116 = .ok (.i2l, 1) := by decide +kernel
theorem dX11_moded_117 : decode cX11_moded 117 = .ok (.invokevirtual 196, 3) := by decide +kernel
theorem dX11_moded_120 : decode cX11_moded 120 = .ok (.iload_n 2, 1) := by decide +kernel
theorem dX11_moded_121 : decode cX11_moded 121 = .ok (.ireturn, 1) := by decide +kernel
theorem dX11_readers_0 : decode cX11_readers 0 = .ok (.aload_n 0, 1) := by decide +kernel
theorem dX11_readers_1 : decode cX11_readers 1 = .ok (.getfield 33, 3) := by decide +kernel
theorem dX11_readers_4 : decode cX11_readers 4 = .ok (.getfield 141, 3) := by decide +kernel
theorem dX11_readers_7 : decode cX11_readers 7 = .ok (.iload_n 1, 1) := by decide +kernel
theorem dX11_readers_8 : decode cX11_readers 8 = .ok (.invokevirtual 170, 3) := by decide +kernel
theorem dX11_readers_11 : decode cX11_readers 11 = .ok (.ifCond .ne 5, 3) := by decide +kernel
theorem dX11_readers_14 : decode cX11_readers 14 = .ok (.iconst (-1), 1) := by decide +kernel
theorem dX11_readers_15 : decode cX11_readers 15 = .ok (.ireturn, 1) := by decide +kernel
theorem dX11_readers_16 : decode cX11_readers 16 = .ok (.iconst 0, 1) := by decide +kernel
theorem dX11_readers_17 : decode cX11_readers 17 = .ok (.istore_n 2, 1) := by decide +kernel
theorem dX11_readers_18 : decode cX11_readers 18 = .ok (.iconst (-1), 1) := by decide +kernel
theorem dX11_readers_19 : decode cX11_readers 19 = .ok (.istore_n 3, 1) := by decide +kernel
theorem dX11_readers_20 : decode cX11_readers 20 = .ok (.iconst 0, 1) := by decide +kernel
theorem dX11_readers_21 : decode cX11_readers 21 = .ok (.istore 4, 2) := by decide +kernel
theorem dX11_readers_23 : decode cX11_readers 23 = .ok (.iconst 0, 1) := by decide +kernel
theorem dX11_readers_24 : decode cX11_readers 24 = .ok (.istore 5, 2) := by decide +kernel
theorem dX11_readers_26 : decode cX11_readers 26 = .ok (.iload 5, 2) := by decide +kernel
theorem dX11_readers_28 : decode cX11_readers 28 = .ok (.aload_n 0, 1) := by decide +kernel
theorem dX11_readers_29 : decode cX11_readers 29 = .ok (.getfield 47, 3) := by decide +kernel
theorem dX11_readers_32 : decode cX11_readers 32 = .ok (.getfield 190, 3) := by decide +kernel
theorem dX11_readers_35 : decode cX11_readers 35 = .ok (.if_icmp .ge 76, 3) := by decide +kernel
theorem dX11_readers_38 : decode cX11_readers 38 = .ok (.aload_n 0, 1) := by decide +kernel
theorem dX11_readers_39 : decode cX11_readers 39 = .ok (.getfield 47, 3) := by decide +kernel
theorem dX11_readers_42 : decode cX11_readers 42 = .ok (.getfield 203, 3) := by decide +kernel
theorem dX11_readers_45 : decode cX11_readers 45 = .ok (.iload 5, 2) := by decide +kernel
theorem dX11_readers_47 : decode cX11_readers 47 = .ok (.iaload, 1) := by decide +kernel
theorem dX11_readers_48 : decode cX11_readers 48 = .ok (.iload_n 1, 1) := by decide +kernel
theorem dX11_readers_49 : decode cX11_readers 49 = .ok (.if_icmp .gt 56, 3) := by decide +kernel
theorem dX11_readers_52 : decode cX11_readers 52 = .ok (.iload_n 1, 1) := by decide +kernel
theorem dX11_readers_53 : decode cX11_readers 53 = .ok (.aload_n 0, 1) := by decide +kernel
theorem dX11_readers_54 : decode cX11_readers 54 = .ok (.getfield 47, 3) := by decide +kernel
theorem dX11_readers_57 : decode cX11_readers 57 = .ok (.getfield 241, 3) := by decide +kernel
theorem dX11_readers_60 : decode cX11_readers 60 = .ok (.iload 5, 2) := by decide +kernel
theorem dX11_readers_62 : decode cX11_readers 62 = .ok (.iaload, 1) := by decide +kernel
theorem dX11_readers_63 : decode cX11_readers 63 = .ok (.if_icmp .ge 42, 3) := by decide +kernel
theorem dX11_readers_66 : decode cX11_readers 66 = .ok (.iinc 2 1, 3) := by decide +kernel
theorem dX11_readers_69 : decode cX11_readers 69 = .ok (.iload_n 3, 1) := by decide +kernel
theorem dX11_readers_70 : decode cX11_readers 70 = .ok (.iconst (-1), 1) := by decide +kernel
theorem dX11_readers_71 : decode cX11_readers 71 = .ok (.if_icmp .ne 8, 3) := by decide +kernel
theorem dX11_readers_74 : decode cX11_readers 74 = .ok (.iload 5, 2) := by decide +kernel
theorem dX11_readers_76 : decode cX11_readers 76 = .ok (.goto 4, 3) := by decide +kernel
theorem dX11_readers_79 : decode cX11_readers 79 = .ok (.iload_n 3, 1) := by decide +kernel
theorem dX11_readers_80 : decode cX11_readers 80 = .ok (.istore_n 3, 1) := by decide +kernel
theorem dX11_readers_81 : decode cX11_readers 81 = .ok (.iload 4, 2) := by decide +kernel
theorem dX11_readers_83 : decode cX11_readers 83 = .ok (.iload_n 1, 1) := by decide +kernel
theorem dX11_readers_84 : decode cX11_readers 84 = .ok (.aload_n 0, 1) := by decide +kernel
theorem dX11_readers_85 : decode cX11_readers 85 = .ok (.getfield 47, 3) := by decide +kernel
theorem dX11_readers_88 : decode cX11_readers 88 = .ok (.getfield 193, 3) := by decide +kernel
theorem dX11_readers_91 : decode cX11_readers 91 = .ok (.iload 5, 2) := by decide +kernel
theorem dX11_readers_93 : decode cX11_readers 93 = .ok (.iaload, 1) := by decide +kernel
theorem dX11_readers_94 : decode cX11_readers 94 = .ok (.if_icmp .ge 7, 3) := by decide +kernel
theorem dX11_readers_97 : decode cX11_readers 97 = .ok (.iconst 1, 1) := by decide +kernel
theorem dX11_readers_98 : decode cX11_readers 98 = .ok (.goto 4, 3) := by decide +kernel
theorem dX11_readers_101 : decode cX11_readers 101 = .ok (.iconst 0, 1) := by decide +kernel
theorem dX11_readers_102 : decode cX11_readers 102 = .ok (.iadd, 1) := by decide +kernel
theorem dX11_readers_103 : decode cX11_readers 103 = .ok (.istore 4, 2) := by decide +kernel
theorem dX11_readers_105 : decode cX11_readers 105 = .ok (.iinc 5 1, 3) := by decide +kernel
theorem dX11_readers_108 : decode cX11_readers 108 = .ok (.goto (-82), 3) := by decide +kernel
theorem dX11_readers_111 : decode cX11_readers 111 = .ok (.aload_n 0, 1) := by decide +kernel
theorem dX11_readers_112 : decode cX11_readers 112 = .ok (.iconst 0, 1) := by decide +kernel
theorem dX11_readers_113 : decode cX11_readers 113 = .ok (.putfield 100, 3) := by decide +kernel
theorem dX11_readers_116 : decode cX11_readers 116 = .ok (.aload_n 0, 1) := by decide +kernel
theorem dX11_readers_117 : decode cX11_readers 117 = .ok (.iload_n 3, 1) := by decide +kernel
theorem dX11_readers_118 : decode cX11_readers 118 = .ok (.i2l, 1) := by decide +kernel
theorem dX11_readers_119 : decode cX11_readers 119 = .ok (.invokevirtual 196, 3) := by decide +kernel
theorem dX11_readers_122 : decode cX11_readers 122 = .ok (.aload_n 0, 1) := by decide +kernel
theorem dX11_readers_123 : decode cX11_readers 123 = .ok (.iload 4, 2) := by decide +kernel
theorem dX11_readers_125 : decode cX11_readers 125 = .ok (.i2l, 1) := by decide +kernel
theorem dX11_readers_126 : decode cX11_readers 126 = .ok (.invokevirtual 196, 3) := by decide +kernel
theorem dX11_readers_129 : decode cX11_readers 129 = .ok (.iload_n 2, 1) := by decide +kernel
theorem dX11_readers_130 : decode cX11_readers 130 = .ok (.ireturn, 1) := by decide +kernel
theorem dX11_read_0 : decode cX11_read 0 = .ok (.aload_n 0, 1) := by decide +kernel
theorem dX11_read_1 : decode cX11_read 1 = .ok (.getfield 67, 3) := by decide +kernel
theorem dX11_read_4 : decode cX11_read 4 = .ok (.aload_n 0, 1) := by decide +kernel
theorem dX11_read_5 : decode cX11_read 5 = .ok (.getfield 40, 3) := by decide +kernel
theorem dX11_read_8 : decode cX11_read 8 = .ok (.aload_n 0, 1) := by decide +kernel
theorem dX11_read_9 : decode cX11_read 9 = .ok (.getfield 33, 3) := by decide +kernel
theorem dX11_read_12 : decode cX11_read 12 = .ok (.getfield 141, 3) := by decide +kernel
theorem dX11_read_15 : decode cX11_read 15 = .ok (.aload_n 0, 1) := by decide +kernel
theorem dX11_read_16 : decode cX11_read 16 = .ok (.getfield 47, 3) := by decide +kernel
theorem dX11_read_19 : decode cX11_read 19 = .ok (.invokevirtual 244, 3) := by decide +kernel
theorem dX11_read_22 : decode cX11_read 22 = .ok (.aload_n 0, 1) := by decide +kernel
theorem dX11_read_23 : decode cX11_read 23 = .ok (.iconst 0, 1) := by decide +kernel
theorem dX11_read_24 : decode cX11_read 24 = .ok (.putfield 100, 3) := by decide +kernel
theorem dX11_read_27 : decode cX11_read 27 = .ok (.aload_n 0, 1) := by decide +kernel
theorem dX11_read_28 : decode cX11_read 28 = .ok (.aload_n 0, 1) := by decide +kernel
theorem dX11_read_29 : decode cX11_read 29 = .ok (.getfield 67, 3) := by decide +kernel
theorem dX11_read_32 : decode cX11_read 32 = .ok (.getfield 248, 3) := by decide +kernel
theorem dX11_read_35 : decode cX11_read 35 = .ok (.i2l, 1) := by decide +kernel
theorem dX11_read_36 : decode cX11_read 36 = .ok (.invokevirtual 196, 3) := by decide +kernel
theorem dX11_read_39 : decode cX11_read 39 = .ok (.aload_n 0, 1) := by decide +kernel
theorem dX11_read_40 : decode cX11_read 40 = .ok (.aload_n 0, 1) := by decide +kernel
theorem dX11_read_41 : decode cX11_read 41 = .ok (.getfield 67, 3) := by decide +kernel
theorem dX11_read_44 : decode cX11_read 44 = .ok (.getfield 251, 3) := by decide +kernel
theorem dX11_read_47 : decode cX11_read 47 = .ok (.i2l, 1) := by decide +kernel
theorem dX11_read_48 : decode cX11_read 48 = .ok (.invokevirtual 196, 3) := by decide +kernel
theorem dX11_read_51 : decode cX11_read 51 = .ok (.aload_n 0, 1) := by decide +kernel
theorem dX11_read_52 : decode cX11_read 52 = .ok (.getfield 47, 3) := by decide +kernel
theorem dX11_read_55 : decode cX11_read 55 = .ok (.invokevirtual 252, 3) := by decide +kernel
theorem dX11_read_58 : decode cX11_read 58 = .ok (.ireturn, 1) := by decide +kernel
theorem dX11_twice_0 : decode cX11_twice 0 = .ok (.aload_n 0, 1) := by decide +kernel
theorem dX11_twice_1 : decode cX11_twice 1 = .ok (.getfield 67, 3) := by decide +kernel
theorem dX11_twice_4 : decode cX11_twice 4 = .ok (.aload_n 0, 1) := by decide +kernel
theorem dX11_twice_5 : decode cX11_twice 5 = .ok (.getfield 40, 3) := by decide +kernel
theorem dX11_twice_8 : decode cX11_twice 8 = .ok (.aload_n 0, 1) := by decide +kernel
theorem dX11_twice_9 : decode cX11_twice 9 = .ok (.getfield 33, 3) := by decide +kernel
theorem dX11_twice_12 : decode cX11_twice 12 = .ok (.getfield 141, 3) := by decide +kernel
theorem dX11_twice_15 : decode cX11_twice 15 = .ok (.aload_n 0, 1) := by decide +kernel
theorem dX11_twice_16 : decode cX11_twice 16 = .ok (.getfield 47, 3) := by decide +kernel
theorem dX11_twice_19 : decode cX11_twice 19 = .ok (.invokevirtual 254, 3) := by decide +kernel
theorem dX11_twice_22 : decode cX11_twice 22 = .ok (.aload_n 0, 1) := by decide +kernel
theorem dX11_twice_23 : decode cX11_twice 23 = .ok (.iconst 0, 1) := by decide +kernel
theorem dX11_twice_24 : decode cX11_twice 24 = .ok (.putfield 100, 3) := by decide +kernel
theorem dX11_twice_27 : decode cX11_twice 27 = .ok (.aload_n 0, 1) := by decide +kernel
theorem dX11_twice_28 : decode cX11_twice 28 = .ok (.getfield 67, 3) := by decide +kernel
theorem dX11_twice_31 : decode cX11_twice 31 = .ok (.invokevirtual 257, 3) := by decide +kernel
theorem dX11_twice_34 : decode cX11_twice 34 = .ok (.istore_n 1, 1) := by decide +kernel
theorem dX11_twice_35 : decode cX11_twice 35 = .ok (.aload_n 0, 1) := by decide +kernel
theorem dX11_twice_36 : decode cX11_twice 36 = .ok (.iload_n 1, 1) := by decide +kernel
theorem dX11_twice_37 : decode cX11_twice 37 = .ok (.iconst 1, 1) := by decide +kernel
theorem dX11_twice_38 : decode cX11_twice 38 = .ok (.if_icmp .le 8, 3) := by decide +kernel
theorem dX11_twice_41 : decode cX11_twice 41 = .ok (.iload_n 1, 1) := by decide +kernel
theorem dX11_twice_42 : decode cX11_twice 42 = .ok (.i2l, 1) := by decide +kernel
theorem dX11_twice_43 : decode cX11_twice 43 = .ok (.goto 4, 3) := by decide +kernel
theorem dX11_twice_46 : decode cX11_twice 46 = .ok (.lconst 0, 1) := by decide +kernel
theorem dX11_twice_47 : decode cX11_twice 47 = .ok (.invokevirtual 196, 3) := by decide +kernel
theorem dX11_twice_50 : decode cX11_twice 50 = .ok (.aload_n 0, 1) := by decide +kernel
theorem dX11_twice_51 : decode cX11_twice 51 = .ok (.getfield 67, 3) := by decide +kernel
theorem dX11_twice_54 : decode cX11_twice 54 = .ok (.invokevirtual 260, 3) := by decide +kernel
theorem dX11_twice_57 : decode cX11_twice 57 = .ok (.ireturn, 1) := by decide +kernel
theorem dX11_longest_0 : decode cX11_longest 0 = .ok (.iload_n 1, 1) := by decide +kernel
theorem dX11_longest_1 : decode cX11_longest 1 = .ok (.invokestatic 238, 3) := by decide +kernel
theorem dX11_longest_4 : decode cX11_longest 4 = .ok (.ifCond .eq 21, 3) := by decide +kernel
theorem dX11_longest_7 : decode cX11_longest 7 = .ok (.iload_n 2, 1) := by decide +kernel
theorem dX11_longest_8 : decode cX11_longest 8 = .ok (.ifCond .lt 17, 3) := by decide +kernel
theorem dX11_longest_11 : decode cX11_longest 11 = .ok (.iload_n 2, 1) := by decide +kernel
theorem dX11_longest_12 : decode cX11_longest 12 = .ok (.aload_n 0, 1) := by decide +kernel
theorem dX11_longest_13 : decode cX11_longest 13 = .ok (.getfield 33, 3) := by decide +kernel
theorem dX11_longest_16 : decode cX11_longest 16 = .ok (.getfield 141, 3) := by decide +kernel
theorem dX11_longest_19 : decode cX11_longest 19 = .ok (.getfield 150, 3) := by decide +kernel
theorem dX11_longest_22 : decode cX11_longest 22 = .ok (.if_icmp .le 5, 3) := by decide +kernel
theorem dX11_longest_25 : decode cX11_longest 25 = .ok (.iconst (-1), 1) := by decide +kernel
theorem dX11_longest_26 : decode cX11_longest 26 = .ok (.ireturn, 1) := by decide +kernel
theorem dX11_longest_27 : decode cX11_longest 27 = .ok (.aload_n 0, 1) := by decide +kernel
theorem dX11_longest_28 : decode cX11_longest 28 = .ok (.getfield 61, 3) := by decide +kernel
theorem dX11_longest_31 : decode cX11_longest 31 = .ok (.aload_n 0, 1) := by decide +kernel
theorem dX11_longest_32 : decode cX11_longest 32 = .ok (.getfield 40, 3) := by decide +kernel
theorem dX11_longest_35 : decode cX11_longest 35 = .ok (.aload_n 0, 1) := by decide +kernel
theorem dX11_longest_36 : decode cX11_longest 36 = .ok (.getfield 33, 3) := by decide +kernel
theorem dX11_longest_39 : decode cX11_longest 39 = .ok (.getfield 141, 3) := by decide +kernel
theorem dX11_longest_42 : decode cX11_longest 42 = .ok (.iload_n 1, 1) := by decide +kernel
theorem dX11_longest_43 : decode cX11_longest 43 = .ok (.iload_n 2, 1) := by decide +kernel
theorem dX11_longest_44 : decode cX11_longest 44 = .ok (.invokevirtual 263, 3) := by decide +kernel
theorem dX11_longest_47 : decode cX11_longest 47 = .ok (.aload_n 0, 1) := by decide +kernel
theorem dX11_longest_48 : decode cX11_longest 48 = .ok (.getfield 61, 3) := by decide +kernel
theorem dX11_longest_51 : decode cX11_longest 51 = .ok (.getfield 267, 3) := by decide +kernel
theorem dX11_longest_54 : decode cX11_longest 54 = .ok (.iconst (-1), 1) := by decide +kernel
theorem dX11_longest_55 : decode cX11_longest 55 = .ok (.if_icmp .ne 6, 3) := by decide +kernel
theorem dX11_longest_58 : decode cX11_longest 58 = .ok (.bipush (-2), 2) := by decide +kernel
theorem dX11_longest_60 : decode cX11_longest 60 = .ok (.ireturn, 1) := by decide +kernel
theorem dX11_longest_61 : decode cX11_longest 61 = .ok (.aload_n 0, 1) := by decide +kernel
theorem dX11_longest_62 : decode cX11_longest 62 = .ok (.iconst 0, 1) := by decide +kernel
theorem dX11_longest_63 : decode cX11_longest 63 = .ok (.putfield 100, 3) := by decide +kernel
theorem dX11_longest_66 : decode cX11_longest 66 = .ok (.aload_n 0, 1) := by decide +kernel
theorem dX11_longest_67 : decode cX11_longest 67 = .ok (.aload_n 0, 1) := by decide +kernel
theorem dX11_longest_68 : decode cX11_longest 68 = .ok (.getfield 61, 3) := by decide +kernel
theorem dX11_longest_71 : decode cX11_longest 71 = .ok (.getfield 267, 3) := by decide +kernel
theorem dX11_longest_74 : decode cX11_longest 74 = .ok (.i2l, 1) := by decide +kernel
theorem dX11_longest_75 : decode cX11_longest 75 = .ok (.invokevirtual 196, 3) := by decide +kernel
theorem dX11_longest_78 : decode cX11_longest 78 = .ok (.aload_n 0, 1) := by decide +kernel
theorem dX11_longest_79 : decode cX11_longest 79 = .ok (.getfield 61, 3) := by decide +kernel
theorem dX11_longest_82 : decode cX11_longest 82 = .ok (.getfield 270, 3) := by decide +kernel
theorem dX11_longest_85 : decode cX11_longest 85 = .ok (.iload_n 2, 1) := by decide +kernel
theorem dX11_longest_86 : decode cX11_longest 86 = .ok (.isub, 1) := by decide +kernel
theorem dX11_longest_87 : decode cX11_longest 87 = .ok (.ireturn, 1) := by decide +kernel
theorem dX11_matches_0 : decode cX11_matches 0 = .ok (.aload_n 0, 1) := by decide +kernel
theorem dX11_matches_1 : decode cX11_matches 1 = .ok (.iload_n 1, 1) := by decide +kernel
theorem dX11_matches_2 : decode cX11_matches 2 = .ok (.iload_n 2, 1) := by decide +kernel
theorem dX11_matches_3 : decode cX11_matches 3 = .ok (.invokevirtual 273, 3) := by decide +kernel
theorem dX11_matches_6 : decode cX11_matches 6 = .ok (.ifCond .ne 5, 3) := by decide +kernel
theorem dX11_matches_9 : decode cX11_matches 9 = .ok (.iconst (-1), 1) := by decide +kernel
theorem dX11_matches_10 : decode cX11_matches 10 = .ok (.ireturn, 1) := by decide +kernel
theorem dX11_matches_11 : decode cX11_matches 11 = .ok (.iconst 0, 1) := by decide +kernel
theorem dX11_matches_12 : decode cX11_matches 12 = .ok (.istore_n 3, 1) := by decide +kernel
theorem dX11_matches_13 : decode cX11_matches 13 = .ok (.aload_n 0, 1) := by decide +kernel
theorem dX11_matches_14 : decode cX11_matches 14 = .ok (.iconst 0, 1) := by decide +kernel
theorem dX11_matches_15 : decode cX11_matches 15 = .ok (.putfield 100, 3) := by decide +kernel
theorem dX11_matches_18 : decode cX11_matches 18 = .ok (.iconst 0, 1) := by decide +kernel
theorem dX11_matches_19 : decode cX11_matches 19 = .ok (.istore 4, 2) := by decide +kernel
theorem dX11_matches_21 : decode cX11_matches 21 = .ok (.iload 4, 2) := by decide +kernel
theorem dX11_matches_23 : decode cX11_matches 23 = .ok (.iconst 4, 1) := by decide +kernel
theorem dX11_matches_24 : decode cX11_matches 24 = .ok (.if_icmp .ge 74, 3) := by decide +kernel
theorem dX11_matches_27 : decode cX11_matches 27 = .ok (.aload_n 0, 1) := by decide +kernel
theorem dX11_matches_28 : decode cX11_matches 28 = .ok (.getfield 40, 3) := by decide +kernel
theorem dX11_matches_31 : decode cX11_matches 31 = .ok (.iload 4, 2) := by decide +kernel
theorem dX11_matches_33 : decode cX11_matches 33 = .ok (.aload_n 0, 1) := by decide +kernel
theorem dX11_matches_34 : decode cX11_matches 34 = .ok (.getfield 33, 3) := by decide +kernel
theorem dX11_matches_37 : decode cX11_matches 37 = .ok (.getfield 141, 3) := by decide +kernel
theorem dX11_matches_40 : decode cX11_matches 40 = .ok (.iload_n 1, 1) := by decide +kernel
theorem dX11_matches_41 : decode cX11_matches 41 = .ok (.iload_n 2, 1) := by decide +kernel
theorem dX11_matches_42 : decode cX11_matches 42 = .ok (.invokevirtual 277, 3) := by decide +kernel
theorem dX11_matches_45 : decode cX11_matches 45 = .ok (.istore 5, 2) := by decide +kernel
theorem dX11_matches_47 : decode cX11_matches 47 = .ok (.iload_n 1, 1) := by decide +kernel
theorem dX11_matches_48 : decode cX11_matches 48 = .ok (.iload_n 2, 1) := by decide +kernel
theorem dX11_matches_49 : decode cX11_matches 49 = .ok (.if_icmp .ne 15, 3) := by decide +kernel
theorem dX11_matches_52 : decode cX11_matches 52 = .ok (.aload_n 0, 1) := by decide +kernel
theorem dX11_matches_53 : decode cX11_matches 53 = .ok (.getfield 40, 3) := by decide +kernel
theorem dX11_matches_56 : decode cX11_matches 56 = .ok (.iload 4, 2) := by decide +kernel
theorem dX11_matches_58 : decode cX11_matches 58 = .ok (.invokevirtual 281, 3) := by decide +kernel
theorem dX11_matches_61 : decode cX11_matches 61 = .ok (.goto 14, 3) := by decide +kernel
theorem dX11_matches_64 : decode cX11_matches 64 = .ok (.aload_n 0, 1) := by decide +kernel
theorem dX11_matches_65 : decode cX11_matches 65 = .ok (.getfield 40, 3) := by decide +kernel
theorem dX11_matches_68 : decode cX11_matches 68 = .ok (.iload 4, 2) := by decide +kernel
theorem dX11_matches_70 : decode cX11_matches 70 = .ok (.iload 5, 2) := by decide +kernel
theorem dX11_matches_72 : decode cX11_matches 72 = .ok (.invokevirtual 284, 3) := by decide +kernel
theorem dX11_matches_75 : decode cX11_matches 75 = .ok (.istore 6, 2) := by decide +kernel
theorem dX11_matches_77 : decode cX11_matches 77 = .ok (.iload_n 3, 1) := by decide +kernel
theorem dX11_matches_78 : decode cX11_matches 78 = .ok (.iload 6, 2) := by decide +kernel
theorem dX11_matches_80 : decode cX11_matches 80 = .ok (.ior, 1) := by decide +kernel
theorem dX11_matches_81 : decode cX11_matches 81 = .ok (.istore_n 3, 1) := by decide +kernel
theorem dX11_matches_82 : decode cX11_matches 82 = .ok (.aload_n 0, 1) := by decide +kernel
theorem dX11_matches_83 : decode cX11_matches 83 = .ok (.iload 6, 2) := by decide +kernel
theorem dX11_matches_85 : decode cX11_matches 85 = .ok (.invokestatic 287, 3) := by decide +kernel
theorem dX11_matches_88 : decode cX11_matches 88 = .ok (.i2l, 1) := by decide +kernel
theorem dX11_matches_89 : decode cX11_matches 89 = .ok (.invokevirtual 196, 3) := by decide +kernel
theorem dX11_matches_92 : decode cX11_matches 92 = .ok (.iinc 4 1, 3) := by decide +kernel
theorem dX11_matches_95 : decode cX11_matches 95 = .ok (.goto (-74), 3) := by decide +kernel
theorem dX11_matches_98 : decode cX11_matches 98 = .ok (.iload_n 3, 1) := by decide +kernel
theorem dX11_matches_99 : decode cX11_matches 99 = .ok (.ireturn, 1) := by decide +kernel
theorem dX11_stands_0 : decode cX11_stands 0 = .ok (.iload_n 1, 1) := by decide +kernel
theorem dX11_stands_1 : decode cX11_stands 1 = .ok (.invokestatic 238, 3) := by decide +kernel
theorem dX11_stands_4 : decode cX11_stands 4 = .ok (.ifCond .eq 17, 3) := by decide +kernel
theorem dX11_stands_7 : decode cX11_stands 7 = .ok (.aload_n 0, 1) := by decide +kernel
theorem dX11_stands_8 : decode cX11_stands 8 = .ok (.iload_n 2, 1) := by decide +kernel
theorem dX11_stands_9 : decode cX11_stands 9 = .ok (.iload_n 3, 1) := by decide +kernel
theorem dX11_stands_10 : decode cX11_stands 10 = .ok (.invokevirtual 273, 3) := by decide +kernel
theorem dX11_stands_13 : decode cX11_stands 13 = .ok (.ifCond .eq 8, 3) := by decide +kernel
theorem dX11_stands_16 : decode cX11_stands 16 = .ok (.iload_n 2, 1) := by decide +kernel
theorem dX11_stands_17 : decode cX11_stands 17 = .ok (.iload_n 3, 1) := by decide +kernel
theorem dX11_stands_18 : decode cX11_stands 18 = .ok (.if_icmp .ne 5, 3) := by decide +kernel
theorem dX11_stands_21 : decode cX11_stands 21 = .ok (.iconst (-1), 1) := by decide +kernel
theorem dX11_stands_22 : decode cX11_stands 22 = .ok (.ireturn, 1) := by decide +kernel
theorem dX11_stands_23 : decode cX11_stands 23 = .ok (.aload_n 0, 1) := by decide +kernel
theorem dX11_stands_24 : decode cX11_stands 24 = .ok (.getfield 40, 3) := by decide +kernel
theorem dX11_stands_27 : decode cX11_stands 27 = .ok (.iload_n 1, 1) := by decide +kernel
theorem dX11_stands_28 : decode cX11_stands 28 = .ok (.aload_n 0, 1) := by decide +kernel
theorem dX11_stands_29 : decode cX11_stands 29 = .ok (.getfield 33, 3) := by decide +kernel
theorem dX11_stands_32 : decode cX11_stands 32 = .ok (.getfield 141, 3) := by decide +kernel
theorem dX11_stands_35 : decode cX11_stands 35 = .ok (.iload_n 2, 1) := by decide +kernel
theorem dX11_stands_36 : decode cX11_stands 36 = .ok (.iload_n 3, 1) := by decide +kernel
theorem dX11_stands_37 : decode cX11_stands 37 = .ok (.invokevirtual 277, 3) := by decide +kernel
theorem dX11_stands_40 : decode cX11_stands 40 = .ok (.istore 4, 2) := by decide +kernel
theorem dX11_stands_42 : decode cX11_stands 42 = .ok (.aload_n 0, 1) := by decide +kernel
theorem dX11_stands_43 : decode cX11_stands 43 = .ok (.iconst 0, 1) := by decide +kernel
theorem dX11_stands_44 : decode cX11_stands 44 = .ok (.putfield 100, 3) := by decide +kernel
theorem dX11_stands_47 : decode cX11_stands 47 = .ok (.aload_n 0, 1) := by decide +kernel
theorem dX11_stands_48 : decode cX11_stands 48 = .ok (.aload_n 0, 1) := by decide +kernel
theorem dX11_stands_49 : decode cX11_stands 49 = .ok (.getfield 40, 3) := by decide +kernel
theorem dX11_stands_52 : decode cX11_stands 52 = .ok (.iload_n 1, 1) := by decide +kernel
theorem dX11_stands_53 : decode cX11_stands 53 = .ok (.aload_n 0, 1) := by decide +kernel
theorem dX11_stands_54 : decode cX11_stands 54 = .ok (.getfield 40, 3) := by decide +kernel
theorem dX11_stands_57 : decode cX11_stands 57 = .ok (.iload_n 1, 1) := by decide +kernel
theorem dX11_stands_58 : decode cX11_stands 58 = .ok (.iload 4, 2) := by decide +kernel
theorem dX11_stands_60 : decode cX11_stands 60 = .ok (.invokevirtual 290, 3) := by decide +kernel
theorem dX11_stands_63 : decode cX11_stands 63 = .ok (.invokevirtual 293, 3) := by decide +kernel
theorem dX11_stands_66 : decode cX11_stands 66 = .ok (.i2l, 1) := by decide +kernel
theorem dX11_stands_67 : decode cX11_stands 67 = .ok (.invokevirtual 196, 3) := by decide +kernel
theorem dX11_stands_70 : decode cX11_stands 70 = .ok (.iload 4, 2) := by decide +kernel
theorem dX11_stands_72 : decode cX11_stands 72 = .ok (.invokestatic 296, 3) := by decide +kernel
theorem dX11_stands_75 : decode cX11_stands 75 = .ok (.ireturn, 1) := by decide +kernel
theorem dX11_states_0 : decode cX11_states 0 = .ok (.iload_n 1, 1) := by decide +kernel
theorem dX11_states_1 : decode cX11_states 1 = .ok (.invokestatic 238, 3) := by decide +kernel
theorem dX11_states_4 : decode cX11_states 4 = .ok (.ifCond .ne 5, 3) := by decide +kernel
theorem dX11_states_7 : decode cX11_states 7 = .ok (.iconst (-1), 1) := by decide +kernel
theorem dX11_states_8 : decode cX11_states 8 = .ok (.ireturn, 1) := by decide +kernel
theorem dX11_states_9 : decode cX11_states 9 = .ok (.aload_n 0, 1) := by decide +kernel
theorem dX11_states_10 : decode cX11_states 10 = .ok (.getfield 74, 3) := by decide +kernel
theorem dX11_states_13 : decode cX11_states 13 = .ok (.aload_n 0, 1) := by decide +kernel
theorem dX11_states_14 : decode cX11_states 14 = .ok (.getfield 40, 3) := by decide +kernel
theorem dX11_states_17 : decode cX11_states 17 = .ok (.iload_n 1, 1) := by decide +kernel
theorem dX11_states_18 : decode cX11_states 18 = .ok (.invokevirtual 301, 3) := by decide +kernel
theorem dX11_states_21 : decode cX11_states 21 = .ok (.iconst 0, 1) := by decide +kernel
theorem dX11_states_22 : decode cX11_states 22 = .ok (.istore_n 2, 1) := by decide +kernel
theorem dX11_states_23 : decode cX11_states 23 = .ok (.iconst 0, 1) := by decide +kernel
theorem dX11_states_24 : decode cX11_states 24 = .ok (.istore_n 3, 1) := by decide +kernel
theorem dX11_states_25 : decode cX11_states 25 = .ok (.iload_n 3, 1) := by decide +kernel
theorem dX11_states_26 : decode cX11_states 26 = .ok (.aload_n 0, 1) := by decide +kernel
theorem dX11_states_27 : decode cX11_states 27 = .ok (.getfield 74, 3) := by decide +kernel
theorem dX11_states_30 : decode cX11_states 30 = .ok (.getfield 305, 3) := by decide +kernel
theorem dX11_states_33 : decode cX11_states 33 = .ok (.if_icmp .ge 38, 3) := by decide +kernel
theorem dX11_states_36 : decode cX11_states 36 = .ok (.iload_n 2, 1) := by decide +kernel
theorem dX11_states_37 : decode cX11_states 37 = .ok (.aload_n 0, 1) := by decide +kernel
theorem dX11_states_38 : decode cX11_states 38 = .ok (.getfield 40, 3) := by decide +kernel
theorem dX11_states_41 : decode cX11_states 41 = .ok (.iload_n 1, 1) := by decide +kernel
theorem dX11_states_42 : decode cX11_states 42 = .ok (.aload_n 0, 1) := by decide +kernel
theorem dX11_states_43 : decode cX11_states 43 = .ok (.getfield 74, 3) := by decide +kernel
theorem dX11_states_46 : decode cX11_states 46 = .ok (.getfield 306, 3) := by decide +kernel
theorem dX11_states_49 : decode cX11_states 49 = .ok (.iload_n 3, 1) := by decide +kernel
theorem dX11_states_50 : decode cX11_states 50 = .ok (.iaload, 1) := by decide +kernel
theorem dX11_states_51 : decode cX11_states 51 = .ok (.invokevirtual 309, 3) := by decide +kernel
theorem dX11_states_54 : decode cX11_states 54 = .ok (.iconst (-1), 1) := by decide +kernel
theorem dX11_states_55 : decode cX11_states 55 = .ok (.if_icmp .ne 7, 3) := by decide +kernel
theorem dX11_states_58 : decode cX11_states 58 = .ok (.iconst 0, 1) := by decide +kernel
theorem dX11_states_59 : decode cX11_states 59 = .ok (.goto 4, 3) := by decide +kernel
theorem dX11_states_62 : decode cX11_states 62 = .ok (.iconst 1, 1) := by decide +kernel
theorem dX11_states_63 : decode cX11_states 63 = .ok (.iadd, 1) := by decide +kernel
theorem dX11_states_64 : decode cX11_states 64 = .ok (.istore_n 2, 1) := by decide +kernel
theorem dX11_states_65 : decode cX11_states 65 = .ok (.iinc 3 1, 3) := by decide +kernel
theorem dX11_states_68 : decode cX11_states 68 = .ok (.goto (-43), 3) := by decide +kernel
theorem dX11_states_71 : decode cX11_states 71 = .ok (.aload_n 0, 1) := by decide +kernel
theorem dX11_states_72 : decode cX11_states 72 = .ok (.iconst 0, 1) := by decide +kernel
theorem dX11_states_73 : decode cX11_states 73 = .ok (.putfield 100, 3) := by decide +kernel
theorem dX11_states_76 : decode cX11_states 76 = .ok (.aload_n 0, 1) := by decide +kernel
theorem dX11_states_77 : decode cX11_states 77 = .ok (.iload_n 2, 1) := by decide +kernel
theorem dX11_states_78 : decode cX11_states 78 = .ok (.i2l, 1) := by decide +kernel
theorem dX11_states_79 : decode cX11_states 79 = .ok (.invokevirtual 196, 3) := by decide +kernel
theorem dX11_states_82 : decode cX11_states 82 = .ok (.aload_n 0, 1) := by decide +kernel
theorem dX11_states_83 : decode cX11_states 83 = .ok (.getfield 74, 3) := by decide +kernel
theorem dX11_states_86 : decode cX11_states 86 = .ok (.getfield 305, 3) := by decide +kernel
theorem dX11_states_89 : decode cX11_states 89 = .ok (.ireturn, 1) := by decide +kernel
theorem dX11_shortest_0 : decode cX11_shortest 0 = .ok (.iload_n 1, 1) := by decide +kernel
theorem dX11_shortest_1 : decode cX11_shortest 1 = .ok (.ifCond .lt 14, 3) := by decide +kernel
theorem dX11_shortest_4 : decode cX11_shortest 4 = .ok (.iload_n 1, 1) := by decide +kernel
theorem dX11_shortest_5 : decode cX11_shortest 5 = .ok (.aload_n 0, 1) := by decide +kernel
theorem dX11_shortest_6 : decode cX11_shortest 6 = .ok (.getfield 40, 3) := by decide +kernel
theorem dX11_shortest_9 : decode cX11_shortest 9 = .ok (.getfield 135, 3) := by decide +kernel
theorem dX11_shortest_12 : decode cX11_shortest 12 = .ok (.if_icmp .lt 5, 3) := by decide +kernel
theorem dX11_shortest_15 : decode cX11_shortest 15 = .ok (.iconst (-1), 1) := by decide +kernel
theorem dX11_shortest_16 : decode cX11_shortest 16 = .ok (.ireturn, 1) := by decide +kernel
theorem dX11_shortest_17 : decode cX11_shortest 17 = .ok (.aload_n 0, 1) := by decide +kernel
theorem dX11_shortest_18 : decode cX11_shortest 18 = .ok (.getfield 40, 3) := by decide +kernel
theorem dX11_shortest_21 : decode cX11_shortest 21 = .ok (.getfield 154, 3) := by decide +kernel
theorem dX11_shortest_24 : decode cX11_shortest 24 = .ok (.iload_n 1, 1) := by decide +kernel
theorem dX11_shortest_25 : decode cX11_shortest 25 = .ok (.iaload, 1) := by decide +kernel
theorem dX11_shortest_26 : decode cX11_shortest 26 = .ok (.istore_n 2, 1) := by decide +kernel
theorem dX11_shortest_27 : decode cX11_shortest 27 = .ok (.aload_n 0, 1) := by decide +kernel
theorem dX11_shortest_28 : decode cX11_shortest 28 = .ok (.getfield 74, 3) := by decide +kernel
theorem dX11_shortest_31 : decode cX11_shortest 31 = .ok (.aload_n 0, 1) := by decide +kernel
theorem dX11_shortest_32 : decode cX11_shortest 32 = .ok (.getfield 40, 3) := by decide +kernel
theorem dX11_shortest_35 : decode cX11_shortest 35 = .ok (.iload_n 2, 1) := by decide +kernel
theorem dX11_shortest_36 : decode cX11_shortest 36 = .ok (.invokevirtual 301, 3) := by decide +kernel
theorem dX11_shortest_39 : decode cX11_shortest 39 = .ok (.iconst 0, 1) := by decide +kernel
theorem dX11_shortest_40 : decode cX11_shortest 40 = .ok (.istore_n 3, 1) := by decide +kernel
theorem dX11_shortest_41 : decode cX11_shortest 41 = .ok (.iload_n 3, 1) := by decide +kernel
theorem dX11_shortest_42 : decode cX11_shortest 42 = .ok (.aload_n 0, 1) := by decide +kernel
theorem dX11_shortest_43 : decode cX11_shortest 43 = .ok (.getfield 74, 3) := by decide +kernel
theorem dX11_shortest_46 : decode cX11_shortest 46 = .ok (.getfield 305, 3) := by decide +kernel
theorem dX11_shortest_49 : decode cX11_shortest 49 = .ok (.if_icmp .ge 44, 3) := by decide +kernel
theorem dX11_shortest_52 : decode cX11_shortest 52 = .ok (.aload_n 0, 1) := by decide +kernel
theorem dX11_shortest_53 : decode cX11_shortest 53 = .ok (.getfield 40, 3) := by decide +kernel
theorem dX11_shortest_56 : decode cX11_shortest 56 = .ok (.iload_n 2, 1) := by decide +kernel
theorem dX11_shortest_57 : decode cX11_shortest 57 = .ok (.aload_n 0, 1) := by decide +kernel
theorem dX11_shortest_58 : decode cX11_shortest 58 = .ok (.getfield 74, 3) := by decide +kernel
theorem dX11_shortest_61 : decode cX11_shortest 61 = .ok (.getfield 306, 3) := by decide +kernel
theorem dX11_shortest_64 : decode cX11_shortest 64 = .ok (.iload_n 3, 1) := by decide +kernel
theorem dX11_shortest_65 : decode cX11_shortest 65 = .ok (.iaload, 1) := by decide +kernel
theorem dX11_shortest_66 : decode cX11_shortest 66 = .ok (.invokevirtual 309, 3) := by decide +kernel
theorem dX11_shortest_69 : decode cX11_shortest 69 = .ok (.iload_n 1, 1) := by decide +kernel
theorem dX11_shortest_70 : decode cX11_shortest 70 = .ok (.if_icmp .ne 17, 3) := by decide +kernel
theorem dX11_shortest_73 : decode cX11_shortest 73 = .ok (.aload_n 0, 1) := by decide +kernel
theorem dX11_shortest_74 : decode cX11_shortest 74 = .ok (.aload_n 0, 1) := by decide +kernel
theorem dX11_shortest_75 : decode cX11_shortest 75 = .ok (.getfield 74, 3) := by decide +kernel
theorem dX11_shortest_78 : decode cX11_shortest 78 = .ok (.getfield 306, 3) := by decide +kernel
theorem dX11_shortest_81 : decode cX11_shortest 81 = .ok (.iload_n 3, 1) := by decide +kernel
theorem dX11_shortest_82 : decode cX11_shortest 82 = .ok (.iaload, 1) := by decide +kernel
theorem dX11_shortest_83 : decode cX11_shortest 83 = .ok (.invokevirtual 312, 3) := by decide +kernel
theorem dX11_shortest_86 : decode cX11_shortest 86 = .ok (.ireturn, 1) := by decide +kernel
theorem dX11_shortest_87 : decode cX11_shortest 87 = .ok (.iinc 3 1, 3) := by decide +kernel
theorem dX11_shortest_90 : decode cX11_shortest 90 = .ok (.goto (-49), 3) := by decide +kernel
theorem dX11_shortest_93 : decode cX11_shortest 93 = .ok (.bipush (-2), 2) := by decide +kernel
theorem dX11_shortest_95 : decode cX11_shortest 95 = .ok (.ireturn, 1) := by decide +kernel
theorem dX11_idle_0 : decode cX11_idle 0 = .ok (.iconst 0, 1) := by decide +kernel
theorem dX11_idle_1 : decode cX11_idle 1 = .ok (.istore_n 1, 1) := by decide +kernel
theorem dX11_idle_2 : decode cX11_idle 2 = .ok (.iconst 0, 1) := by decide +kernel
theorem dX11_idle_3 : decode cX11_idle 3 = .ok (.istore_n 2, 1) := by decide +kernel
theorem dX11_idle_4 : decode cX11_idle 4 = .ok (.iload_n 2, 1) := by decide +kernel
theorem dX11_idle_5 : decode cX11_idle 5 = .ok (.iconst 4, 1) := by decide +kernel
theorem dX11_idle_6 : decode cX11_idle 6 = .ok (.if_icmp .ge 76, 3) := by decide +kernel
theorem dX11_idle_9 : decode cX11_idle 9 = .ok (.aload_n 0, 1) := by decide +kernel
theorem dX11_idle_10 : decode cX11_idle 10 = .ok (.getfield 74, 3) := by decide +kernel
theorem dX11_idle_13 : decode cX11_idle 13 = .ok (.aload_n 0, 1) := by decide +kernel
theorem dX11_idle_14 : decode cX11_idle 14 = .ok (.getfield 40, 3) := by decide +kernel
theorem dX11_idle_17 : decode cX11_idle 17 = .ok (.iload_n 2, 1) := by decide +kernel
theorem dX11_idle_18 : decode cX11_idle 18 = .ok (.invokevirtual 301, 3) := by decide +kernel
theorem dX11_idle_21 : decode cX11_idle 21 = .ok (.iconst 0, 1) := by decide +kernel
theorem dX11_idle_22 : decode cX11_idle 22 = .ok (.istore_n 3, 1) := by decide +kernel
theorem dX11_idle_23 : decode cX11_idle 23 = .ok (.iload_n 3, 1) := by decide +kernel
theorem dX11_idle_24 : decode cX11_idle 24 = .ok (.aload_n 0, 1) := by decide +kernel
theorem dX11_idle_25 : decode cX11_idle 25 = .ok (.getfield 74, 3) := by decide +kernel
theorem dX11_idle_28 : decode cX11_idle 28 = .ok (.getfield 305, 3) := by decide +kernel
theorem dX11_idle_31 : decode cX11_idle 31 = .ok (.if_icmp .ge 45, 3) := by decide +kernel
theorem dX11_idle_34 : decode cX11_idle 34 = .ok (.aload_n 0, 1) := by decide +kernel
theorem dX11_idle_35 : decode cX11_idle 35 = .ok (.getfield 40, 3) := by decide +kernel
theorem dX11_idle_38 : decode cX11_idle 38 = .ok (.iload_n 2, 1) := by decide +kernel
theorem dX11_idle_39 : decode cX11_idle 39 = .ok (.aload_n 0, 1) := by decide +kernel
theorem dX11_idle_40 : decode cX11_idle 40 = .ok (.getfield 74, 3) := by decide +kernel
theorem dX11_idle_43 : decode cX11_idle 43 = .ok (.getfield 306, 3) := by decide +kernel
theorem dX11_idle_46 : decode cX11_idle 46 = .ok (.iload_n 3, 1) := by decide +kernel
theorem dX11_idle_47 : decode cX11_idle 47 = .ok (.iaload, 1) := by decide +kernel
theorem dX11_idle_48 : decode cX11_idle 48 = .ok (.invokevirtual 309, 3) := by decide +kernel
theorem dX11_idle_51 : decode cX11_idle 51 = .ok (.istore 4, 2) := by decide +kernel
theorem dX11_idle_53 : decode cX11_idle 53 = .ok (.iload_n 1, 1) := by decide +kernel
theorem dX11_idle_54 : decode cX11_idle 54 = .ok (.iload 4, 2) := by decide +kernel
theorem dX11_idle_56 : decode cX11_idle 56 = .ok (.iconst (-1), 1) := by decide +kernel
theorem dX11_idle_57 : decode cX11_idle 57 = .ok (.if_icmp .ne 7, 3) := by decide +kernel
theorem dX11_idle_60 : decode cX11_idle 60 = .ok (.iconst 0, 1) := by decide +kernel
theorem dX11_idle_61 : decode cX11_idle 61 = .ok (.goto 7, 3) := by decide +kernel
theorem dX11_idle_64 : decode cX11_idle 64 = .ok (.iconst 1, 1) := by decide +kernel
theorem dX11_idle_65 : decode cX11_idle 65 = .ok (.iload 4, 2) := by decide +kernel
theorem dX11_idle_67 : decode cX11_idle 67 = .ok (.ishl, 1) := by decide +kernel
theorem dX11_idle_68 : decode cX11_idle 68 = .ok (.ior, 1) := by decide +kernel
theorem dX11_idle_69 : decode cX11_idle 69 = .ok (.istore_n 1, 1) := by decide +kernel
theorem dX11_idle_70 : decode cX11_idle 70 = .ok (.iinc 3 1, 3) := by decide +kernel
theorem dX11_idle_73 : decode cX11_idle 73 = .ok (.goto (-50), 3) := by decide +kernel
theorem dX11_idle_76 : decode cX11_idle 76 = .ok (.iinc 2 1, 3) := by decide +kernel
theorem dX11_idle_79 : decode cX11_idle 79 = .ok (.goto (-75), 3) := by decide +kernel
theorem dX11_idle_82 : decode cX11_idle 82 = .ok (.iconst 1, 1) := by decide +kernel
theorem dX11_idle_83 : decode cX11_idle 83 = .ok (.aload_n 0, 1) := by decide +kernel
theorem dX11_idle_84 : decode cX11_idle 84 = .ok (.getfield 40, 3) := by decide +kernel
theorem dX11_idle_87 : decode cX11_idle 87 = .ok (.getfield 135, 3) := by decide +kernel
theorem dX11_idle_90 : decode cX11_idle 90 = .ok (.ishl, 1) := by decide +kernel
theorem dX11_idle_91 : decode cX11_idle 91 = .ok (.iconst 1, 1) := by decide +kernel
theorem dX11_idle_92 : decode cX11_idle 92 = .ok (.isub, 1) := by decide +kernel
theorem dX11_idle_93 : decode cX11_idle 93 = .ok (.iload_n 1, 1) := by decide +kernel
theorem dX11_idle_94 : decode cX11_idle 94 = .ok (.iconst (-1), 1) := by decide +kernel
theorem dX11_idle_95 : decode cX11_idle 95 = .ok (.ixor, 1) := by decide +kernel
theorem dX11_idle_96 : decode cX11_idle 96 = .ok (.iand, 1) := by decide +kernel
theorem dX11_idle_97 : decode cX11_idle 97 = .ok (.istore_n 2, 1) := by decide +kernel
theorem dX11_idle_98 : decode cX11_idle 98 = .ok (.aload_n 0, 1) := by decide +kernel
theorem dX11_idle_99 : decode cX11_idle 99 = .ok (.iconst 0, 1) := by decide +kernel
theorem dX11_idle_100 : decode cX11_idle 100 = .ok (.putfield 100, 3) := by decide +kernel
theorem dX11_idle_103 : decode cX11_idle 103 = .ok (.aload_n 0, 1) := by decide +kernel
theorem dX11_idle_104 : decode cX11_idle 104 = .ok (.iload_n 2, 1) := by decide +kernel
theorem dX11_idle_105 : decode cX11_idle 105 = .ok (.invokestatic 296, 3) := by decide +kernel
theorem dX11_idle_108 : decode cX11_idle 108 = .ok (.i2l, 1) := by decide +kernel
theorem dX11_idle_109 : decode cX11_idle 109 = .ok (.invokevirtual 196, 3) := by decide +kernel
theorem dX11_idle_112 : decode cX11_idle 112 = .ok (.iload_n 2, 1) := by decide +kernel
theorem dX11_idle_113 : decode cX11_idle 113 = .ok (.ireturn, 1) := by decide +kernel
theorem dX11_overlap_0 : decode cX11_overlap 0 = .ok (.iload_n 1, 1) := by decide +kernel
theorem dX11_overlap_1 : decode cX11_overlap 1 = .ok (.ifCond .lt 34, 3) := by decide +kernel
theorem dX11_overlap_4 : decode cX11_overlap 4 = .ok (.iload_n 1, 1) := by decide +kernel
theorem dX11_overlap_5 : decode cX11_overlap 5 = .ok (.aload_n 0, 1) := by decide +kernel
theorem dX11_overlap_6 : decode cX11_overlap 6 = .ok (.getfield 40, 3) := by decide +kernel
theorem dX11_overlap_9 : decode cX11_overlap 9 = .ok (.getfield 135, 3) := by decide +kernel
theorem dX11_overlap_12 : decode cX11_overlap 12 = .ok (.if_icmp .ge 23, 3) := by decide +kernel
theorem dX11_overlap_15 : decode cX11_overlap 15 = .ok (.iload_n 2, 1) := by decide +kernel
theorem dX11_overlap_16 : decode cX11_overlap 16 = .ok (.ifCond .lt 19, 3) := by decide +kernel
theorem dX11_overlap_19 : decode cX11_overlap 19 = .ok (.iload_n 2, 1) := by decide +kernel
theorem dX11_overlap_20 : decode cX11_overlap 20 = .ok (.aload_n 0, 1) := by decide +kernel
theorem dX11_overlap_21 : decode cX11_overlap 21 = .ok (.getfield 40, 3) := by decide +kernel
theorem dX11_overlap_24 : decode cX11_overlap 24 = .ok (.getfield 135, 3) := by decide +kernel
theorem dX11_overlap_27 : decode cX11_overlap 27 = .ok (.if_icmp .ge 8, 3) := by decide +kernel
theorem dX11_overlap_30 : decode cX11_overlap 30 = .ok (.iload_n 1, 1) := by decide +kernel
theorem dX11_overlap_31 : decode cX11_overlap 31 = .ok (.iload_n 2, 1) := by decide +kernel
theorem dX11_overlap_32 : decode cX11_overlap 32 = .ok (.if_icmp .ne 5, 3) := by decide +kernel
theorem dX11_overlap_35 : decode cX11_overlap 35 = .ok (.iconst (-1), 1) := by decide +kernel
theorem dX11_overlap_36 : decode cX11_overlap 36 = .ok (.ireturn, 1) := by decide +kernel
theorem dX11_overlap_37 : decode cX11_overlap 37 = .ok (.aload_n 0, 1) := by decide +kernel
theorem dX11_overlap_38 : decode cX11_overlap 38 = .ok (.getfield 40, 3) := by decide +kernel
theorem dX11_overlap_41 : decode cX11_overlap 41 = .ok (.getfield 154, 3) := by decide +kernel
theorem dX11_overlap_44 : decode cX11_overlap 44 = .ok (.iload_n 1, 1) := by decide +kernel
theorem dX11_overlap_45 : decode cX11_overlap 45 = .ok (.iaload, 1) := by decide +kernel
theorem dX11_overlap_46 : decode cX11_overlap 46 = .ok (.aload_n 0, 1) := by decide +kernel
theorem dX11_overlap_47 : decode cX11_overlap 47 = .ok (.getfield 40, 3) := by decide +kernel
theorem dX11_overlap_50 : decode cX11_overlap 50 = .ok (.getfield 154, 3) := by decide +kernel
theorem dX11_overlap_53 : decode cX11_overlap 53 = .ok (.iload_n 2, 1) := by decide +kernel
theorem dX11_overlap_54 : decode cX11_overlap 54 = .ok (.iaload, 1) := by decide +kernel
theorem dX11_overlap_55 : decode cX11_overlap 55 = .ok (.if_icmp .eq 6, 3) := by decide +kernel
theorem dX11_overlap_58 : decode cX11_overlap 58 = .ok (.bipush (-3), 2) := by decide +kernel
theorem dX11_overlap_60 : decode cX11_overlap 60 = .ok (.ireturn, 1) := by decide +kernel
theorem dX11_overlap_61 : decode cX11_overlap 61 = .ok (.aload_n 0, 1) := by decide +kernel
theorem dX11_overlap_62 : decode cX11_overlap 62 = .ok (.getfield 74, 3) := by decide +kernel
theorem dX11_overlap_65 : decode cX11_overlap 65 = .ok (.aload_n 0, 1) := by decide +kernel
theorem dX11_overlap_66 : decode cX11_overlap 66 = .ok (.getfield 40, 3) := by decide +kernel
theorem dX11_overlap_69 : decode cX11_overlap 69 = .ok (.aload_n 0, 1) := by decide +kernel
theorem dX11_overlap_70 : decode cX11_overlap 70 = .ok (.getfield 40, 3) := by decide +kernel
theorem dX11_overlap_73 : decode cX11_overlap 73 = .ok (.getfield 154, 3) := by decide +kernel
theorem dX11_overlap_76 : decode cX11_overlap 76 = .ok (.iload_n 1, 1) := by decide +kernel
theorem dX11_overlap_77 : decode cX11_overlap 77 = .ok (.iaload, 1) := by decide +kernel
theorem dX11_overlap_78 : decode cX11_overlap 78 = .ok (.invokevirtual 301, 3) := by decide +kernel
theorem dX11_overlap_81 : decode cX11_overlap 81 = .ok (.iconst 0, 1) := by decide +kernel
theorem dX11_overlap_82 : decode cX11_overlap 82 = .ok (.istore_n 3, 1) := by decide +kernel
theorem dX11_overlap_83 : decode cX11_overlap 83 = .ok (.iload_n 3, 1) := by decide +kernel
theorem dX11_overlap_84 : decode cX11_overlap 84 = .ok (.aload_n 0, 1) := by decide +kernel
theorem dX11_overlap_85 : decode cX11_overlap 85 = .ok (.getfield 74, 3) := by decide +kernel
theorem dX11_overlap_88 : decode cX11_overlap 88 = .ok (.getfield 305, 3) := by decide +kernel
theorem dX11_overlap_91 : decode cX11_overlap 91 = .ok (.if_icmp .ge 57, 3) := by decide +kernel
theorem dX11_overlap_94 : decode cX11_overlap 94 = .ok (.aload_n 0, 1) := by decide +kernel
theorem dX11_overlap_95 : decode cX11_overlap 95 = .ok (.getfield 74, 3) := by decide +kernel
theorem dX11_overlap_98 : decode cX11_overlap 98 = .ok (.getfield 306, 3) := by decide +kernel
theorem dX11_overlap_101 : decode cX11_overlap 101 = .ok (.iload_n 3, 1) := by decide +kernel
theorem dX11_overlap_102 : decode cX11_overlap 102 = .ok (.iaload, 1) := by decide +kernel
theorem dX11_overlap_103 : decode cX11_overlap 103 = .ok (.istore 4, 2) := by decide +kernel
theorem dX11_overlap_105 : decode cX11_overlap 105 = .ok (.aload_n 0, 1) := by decide +kernel
theorem dX11_overlap_106 : decode cX11_overlap 106 = .ok (.getfield 40, 3) := by decide +kernel
theorem dX11_overlap_109 : decode cX11_overlap 109 = .ok (.getfield 315, 3) := by decide +kernel
theorem dX11_overlap_112 : decode cX11_overlap 112 = .ok (.iload_n 1, 1) := by decide +kernel
theorem dX11_overlap_113 : decode cX11_overlap 113 = .ok (.iaload, 1) := by decide +kernel
theorem dX11_overlap_114 : decode cX11_overlap 114 = .ok (.iload 4, 2) := by decide +kernel
theorem dX11_overlap_116 : decode cX11_overlap 116 = .ok (.iand, 1) := by decide +kernel
theorem dX11_overlap_117 : decode cX11_overlap 117 = .ok (.ifCond .eq 25, 3) := by decide +kernel
theorem dX11_overlap_120 : decode cX11_overlap 120 = .ok (.aload_n 0, 1) := by decide +kernel
theorem dX11_overlap_121 : decode cX11_overlap 121 = .ok (.getfield 40, 3) := by decide +kernel
theorem dX11_overlap_124 : decode cX11_overlap 124 = .ok (.getfield 315, 3) := by decide +kernel
theorem dX11_overlap_127 : decode cX11_overlap 127 = .ok (.iload_n 2, 1) := by decide +kernel
theorem dX11_overlap_128 : decode cX11_overlap 128 = .ok (.iaload, 1) := by decide +kernel
theorem dX11_overlap_129 : decode cX11_overlap 129 = .ok (.iload 4, 2) := by decide +kernel
theorem dX11_overlap_131 : decode cX11_overlap 131 = .ok (.iand, 1) := by decide +kernel
theorem dX11_overlap_132 : decode cX11_overlap 132 = .ok (.ifCond .eq 10, 3) := by decide +kernel
theorem dX11_overlap_135 : decode cX11_overlap 135 = .ok (.aload_n 0, 1) := by decide +kernel
theorem dX11_overlap_136 : decode cX11_overlap 136 = .ok (.iload 4, 2) := by decide +kernel
theorem dX11_overlap_138 : decode cX11_overlap 138 = .ok (.invokevirtual 312, 3) := by decide +kernel
theorem dX11_overlap_141 : decode cX11_overlap 141 = .ok (.ireturn, 1) := by decide +kernel
theorem dX11_overlap_142 : decode cX11_overlap 142 = .ok (.iinc 3 1, 3) := by decide +kernel
theorem dX11_overlap_145 : decode cX11_overlap 145 = .ok (.goto (-62), 3) := by decide +kernel
theorem dX11_overlap_148 : decode cX11_overlap 148 = .ok (.bipush (-2), 2) := by decide +kernel
theorem dX11_overlap_150 : decode cX11_overlap 150 = .ok (.ireturn, 1) := by decide +kernel
theorem dX11_ways_0 : decode cX11_ways 0 = .ok (.aload_n 0, 1) := by decide +kernel
theorem dX11_ways_1 : decode cX11_ways 1 = .ok (.iload_n 1, 1) := by decide +kernel
theorem dX11_ways_2 : decode cX11_ways 2 = .ok (.iload_n 2, 1) := by decide +kernel
theorem dX11_ways_3 : decode cX11_ways 3 = .ok (.invokevirtual 273, 3) := by decide +kernel
theorem dX11_ways_6 : decode cX11_ways 6 = .ok (.ifCond .ne 5, 3) := by decide +kernel
theorem dX11_ways_9 : decode cX11_ways 9 = .ok (.iconst (-1), 1) := by decide +kernel
theorem dX11_ways_10 : decode cX11_ways 10 = .ok (.ireturn, 1) := by decide +kernel
theorem dX11_ways_11 : decode cX11_ways 11 = .ok (.aload_n 0, 1) := by decide +kernel
theorem dX11_ways_12 : decode cX11_ways 12 = .ok (.getfield 81, 3) := by decide +kernel
theorem dX11_ways_15 : decode cX11_ways 15 = .ok (.aload_n 0, 1) := by decide +kernel
theorem dX11_ways_16 : decode cX11_ways 16 = .ok (.getfield 40, 3) := by decide +kernel
theorem dX11_ways_19 : decode cX11_ways 19 = .ok (.aload_n 0, 1) := by decide +kernel
theorem dX11_ways_20 : decode cX11_ways 20 = .ok (.getfield 33, 3) := by decide +kernel
theorem dX11_ways_23 : decode cX11_ways 23 = .ok (.getfield 141, 3) := by decide +kernel
theorem dX11_ways_26 : decode cX11_ways 26 = .ok (.iload_n 1, 1) := by decide +kernel
theorem dX11_ways_27 : decode cX11_ways 27 = .ok (.iload_n 2, 1) := by decide +kernel
theorem dX11_ways_28 : decode cX11_ways 28 = .ok (.invokevirtual 318, 3) := by decide +kernel
theorem dX11_ways_31 : decode cX11_ways 31 = .ok (.aload_n 0, 1) := by decide +kernel
theorem dX11_ways_32 : decode cX11_ways 32 = .ok (.iconst 0, 1) := by decide +kernel
theorem dX11_ways_33 : decode cX11_ways 33 = .ok (.putfield 100, 3) := by decide +kernel
theorem dX11_ways_36 : decode cX11_ways 36 = .ok (.aload_n 0, 1) := by decide +kernel
theorem dX11_ways_37 : decode cX11_ways 37 = .ok (.aload_n 0, 1) := by decide +kernel
theorem dX11_ways_38 : decode cX11_ways 38 = .ok (.getfield 81, 3) := by decide +kernel
theorem dX11_ways_41 : decode cX11_ways 41 = .ok (.getfield 320, 3) := by decide +kernel
theorem dX11_ways_44 : decode cX11_ways 44 = .ok (.iload_n 1, 1) := by decide +kernel
theorem dX11_ways_45 : decode cX11_ways 45 = .ok (.iaload, 1) := by decide +kernel
theorem dX11_ways_46 : decode cX11_ways 46 = .ok (.i2l, 1) := by decide +kernel
theorem dX11_ways_47 : decode cX11_ways 47 = .ok (.invokevirtual 196, 3) := by decide +kernel
theorem dX11_ways_50 : decode cX11_ways 50 = .ok (.aload_n 0, 1) := by decide +kernel
theorem dX11_ways_51 : decode cX11_ways 51 = .ok (.getfield 81, 3) := by decide +kernel
theorem dX11_ways_54 : decode cX11_ways 54 = .ok (.getfield 323, 3) := by decide +kernel
theorem dX11_ways_57 : decode cX11_ways 57 = .ok (.iload_n 1, 1) := by decide +kernel
theorem dX11_ways_58 : decode cX11_ways 58 = .ok (.iaload, 1) := by decide +kernel
theorem dX11_ways_59 : decode cX11_ways 59 = .ok (.ldc_w 326, 3) := by decide +kernel
theorem dX11_ways_62 : decode cX11_ways 62 = .ok (.invokestatic 327, 3) := by decide +kernel
theorem dX11_ways_65 : decode cX11_ways 65 = .ok (.ireturn, 1) := by decide +kernel
theorem dX11_fewest_0 : decode cX11_fewest 0 = .ok (.aload_n 0, 1) := by decide +kernel
theorem dX11_fewest_1 : decode cX11_fewest 1 = .ok (.iload_n 1, 1) := by decide +kernel
theorem dX11_fewest_2 : decode cX11_fewest 2 = .ok (.iload_n 2, 1) := by decide +kernel
theorem dX11_fewest_3 : decode cX11_fewest 3 = .ok (.invokevirtual 273, 3) := by decide +kernel
theorem dX11_fewest_6 : decode cX11_fewest 6 = .ok (.ifCond .ne 5, 3) := by decide +kernel
theorem dX11_fewest_9 : decode cX11_fewest 9 = .ok (.iconst (-1), 1) := by decide +kernel
theorem dX11_fewest_10 : decode cX11_fewest 10 = .ok (.ireturn, 1) := by decide +kernel
theorem dX11_fewest_11 : decode cX11_fewest 11 = .ok (.aload_n 0, 1) := by decide +kernel
theorem dX11_fewest_12 : decode cX11_fewest 12 = .ok (.getfield 81, 3) := by decide +kernel
theorem dX11_fewest_15 : decode cX11_fewest 15 = .ok (.aload_n 0, 1) := by decide +kernel
theorem dX11_fewest_16 : decode cX11_fewest 16 = .ok (.getfield 40, 3) := by decide +kernel
theorem dX11_fewest_19 : decode cX11_fewest 19 = .ok (.aload_n 0, 1) := by decide +kernel
theorem dX11_fewest_20 : decode cX11_fewest 20 = .ok (.getfield 33, 3) := by decide +kernel
theorem dX11_fewest_23 : decode cX11_fewest 23 = .ok (.getfield 141, 3) := by decide +kernel
theorem dX11_fewest_26 : decode cX11_fewest 26 = .ok (.iload_n 1, 1) := by decide +kernel
theorem dX11_fewest_27 : decode cX11_fewest 27 = .ok (.iload_n 2, 1) := by decide +kernel
theorem dX11_fewest_28 : decode cX11_fewest 28 = .ok (.invokevirtual 318, 3) := by decide +kernel
theorem dX11_fewest_31 : decode cX11_fewest 31 = .ok (.aload_n 0, 1) := by decide +kernel
theorem dX11_fewest_32 : decode cX11_fewest 32 = .ok (.getfield 81, 3) := by decide +kernel
theorem dX11_fewest_35 : decode cX11_fewest 35 = .ok (.getfield 320, 3) := by decide +kernel
theorem dX11_fewest_38 : decode cX11_fewest 38 = .ok (.iload_n 1, 1) := by decide +kernel
theorem dX11_fewest_39 : decode cX11_fewest 39 = .ok (.iaload, 1) := by decide +kernel
theorem dX11_fewest_40 : decode cX11_fewest 40 = .ok (.iconst (-1), 1) := by decide +kernel
theorem dX11_fewest_41 : decode cX11_fewest 41 = .ok (.if_icmp .ne 6, 3) := by decide +kernel
theorem dX11_fewest_44 : decode cX11_fewest 44 = .ok (.bipush (-2), 2) := by decide +kernel
theorem dX11_fewest_46 : decode cX11_fewest 46 = .ok (.ireturn, 1) := by decide +kernel
theorem dX11_fewest_47 : decode cX11_fewest 47 = .ok (.aload_n 0, 1) := by decide +kernel
theorem dX11_fewest_48 : decode cX11_fewest 48 = .ok (.iconst 0, 1) := by decide +kernel
theorem dX11_fewest_49 : decode cX11_fewest 49 = .ok (.putfield 100, 3) := by decide +kernel
theorem dX11_fewest_52 : decode cX11_fewest 52 = .ok (.iload_n 1, 1) := by decide +kernel
theorem dX11_fewest_53 : decode cX11_fewest 53 = .ok (.istore_n 3, 1) := by decide +kernel
theorem dX11_fewest_54 : decode cX11_fewest 54 = .ok (.iload_n 1, 1) := by decide +kernel
theorem dX11_fewest_55 : decode cX11_fewest 55 = .ok (.iconst 1, 1) := by decide +kernel
theorem dX11_fewest_56 : decode cX11_fewest 56 = .ok (.iadd, 1) := by decide +kernel
theorem dX11_fewest_57 : decode cX11_fewest 57 = .ok (.istore 4, 2) := by decide +kernel
theorem dX11_fewest_59 : decode cX11_fewest 59 = .ok (.iload 4, 2) := by decide +kernel
theorem dX11_fewest_61 : decode cX11_fewest 61 = .ok (.iload_n 2, 1) := by decide +kernel
theorem dX11_fewest_62 : decode cX11_fewest 62 = .ok (.if_icmp .gt 32, 3) := by decide +kernel
theorem dX11_fewest_65 : decode cX11_fewest 65 = .ok (.aload_n 0, 1) := by decide +kernel
theorem dX11_fewest_66 : decode cX11_fewest 66 = .ok (.getfield 81, 3) := by decide +kernel
theorem dX11_fewest_69 : decode cX11_fewest 69 = .ok (.iload_n 3, 1) := by decide +kernel
theorem dX11_fewest_70 : decode cX11_fewest 70 = .ok (.iload 4, 2) := by decide +kernel
theorem dX11_fewest_72 : decode cX11_fewest 72 = .ok (.invokevirtual 330, 3) := by decide +kernel
theorem dX11_fewest_75 : decode cX11_fewest 75 = .ok (.ifCond .eq 13, 3) := by decide +kernel
theorem dX11_fewest_78 : decode cX11_fewest 78 = .ok (.aload_n 0, 1) := by decide +kernel
theorem dX11_fewest_79 : decode cX11_fewest 79 = .ok (.iload 4, 2) := by decide +kernel
theorem dX11_fewest_81 : decode cX11_fewest 81 = .ok (.i2l, 1) := by decide +kernel
theorem dX11_fewest_82 : decode cX11_fewest 82 = .ok (.invokevirtual 196, 3) := by decide +kernel
theorem dX11_fewest_85 : decode cX11_fewest 85 = .ok (.iload 4, 2) := by decide +kernel
theorem dX11_fewest_87 : decode cX11_fewest 87 = .ok (.istore_n 3, 1) := by decide +kernel
theorem dX11_fewest_88 : decode cX11_fewest 88 = .ok (.iinc 4 1, 3) := by decide +kernel
theorem dX11_fewest_91 : decode cX11_fewest 91 = .ok (.goto (-32), 3) := by decide +kernel
theorem dX11_fewest_94 : decode cX11_fewest 94 = .ok (.aload_n 0, 1) := by decide +kernel
theorem dX11_fewest_95 : decode cX11_fewest 95 = .ok (.getfield 81, 3) := by decide +kernel
theorem dX11_fewest_98 : decode cX11_fewest 98 = .ok (.getfield 320, 3) := by decide +kernel
theorem dX11_fewest_101 : decode cX11_fewest 101 = .ok (.iload_n 1, 1) := by decide +kernel
theorem dX11_fewest_102 : decode cX11_fewest 102 = .ok (.iaload, 1) := by decide +kernel
theorem dX11_fewest_103 : decode cX11_fewest 103 = .ok (.ireturn, 1) := by decide +kernel
theorem dX11_touched_0 : decode cX11_touched 0 = .ok (.aload_n 0, 1) := by decide +kernel
theorem dX11_touched_1 : decode cX11_touched 1 = .ok (.getfield 33, 3) := by decide +kernel
theorem dX11_touched_4 : decode cX11_touched 4 = .ok (.getfield 141, 3) := by decide +kernel
theorem dX11_touched_7 : decode cX11_touched 7 = .ok (.iload_n 1, 1) := by decide +kernel
theorem dX11_touched_8 : decode cX11_touched 8 = .ok (.invokevirtual 170, 3) := by decide +kernel
theorem dX11_touched_11 : decode cX11_touched 11 = .ok (.ifCond .ne 5, 3) := by decide +kernel
theorem dX11_touched_14 : decode cX11_touched 14 = .ok (.iconst (-1), 1) := by decide +kernel
theorem dX11_touched_15 : decode cX11_touched 15 = .ok (.ireturn, 1) := by decide +kernel
theorem dX11_touched_16 : decode cX11_touched 16 = .ok (.aload_n 0, 1) := by decide +kernel
theorem dX11_touched_17 : decode cX11_touched 17 = .ok (.getfield 47, 3) := by decide +kernel
theorem dX11_touched_20 : decode cX11_touched 20 = .ok (.iload_n 1, 1) := by decide +kernel
theorem dX11_touched_21 : decode cX11_touched 21 = .ok (.invokevirtual 333, 3) := by decide +kernel
theorem dX11_touched_24 : decode cX11_touched 24 = .ok (.istore_n 2, 1) := by decide +kernel
theorem dX11_touched_25 : decode cX11_touched 25 = .ok (.aload_n 0, 1) := by decide +kernel
theorem dX11_touched_26 : decode cX11_touched 26 = .ok (.iconst 0, 1) := by decide +kernel
theorem dX11_touched_27 : decode cX11_touched 27 = .ok (.putfield 100, 3) := by decide +kernel
theorem dX11_touched_30 : decode cX11_touched 30 = .ok (.aload_n 0, 1) := by decide +kernel
theorem dX11_touched_31 : decode cX11_touched 31 = .ok (.iload_n 2, 1) := by decide +kernel
theorem dX11_touched_32 : decode cX11_touched 32 = .ok (.i2l, 1) := by decide +kernel
theorem dX11_touched_33 : decode cX11_touched 33 = .ok (.invokevirtual 196, 3) := by decide +kernel
theorem dX11_touched_36 : decode cX11_touched 36 = .ok (.aload_n 0, 1) := by decide +kernel
theorem dX11_touched_37 : decode cX11_touched 37 = .ok (.iload_n 2, 1) := by decide +kernel
theorem dX11_touched_38 : decode cX11_touched 38 = .ok (.aload_n 0, 1) := by decide +kernel
theorem dX11_touched_39 : decode cX11_touched 39 = .ok (.getfield 47, 3) := by decide +kernel
theorem dX11_touched_42 : decode cX11_touched 42 = .ok (.getfield 190, 3) := by decide +kernel
theorem dX11_touched_45 : decode cX11_touched 45 = .ok (.if_icmp .ge 16, 3) := by decide +kernel
theorem dX11_touched_48 : decode cX11_touched 48 = .ok (.aload_n 0, 1) := by decide +kernel
theorem dX11_touched_49 : decode cX11_touched 49 = .ok (.getfield 47, 3) := by decide +kernel
theorem dX11_touched_52 : decode cX11_touched 52 = .ok (.getfield 203, 3) := by decide +kernel
theorem dX11_touched_55 : decode cX11_touched 55 = .ok (.iload_n 2, 1) := by decide +kernel
theorem dX11_touched_56 : decode cX11_touched 56 = .ok (.iaload, 1) := by decide +kernel
theorem dX11_touched_57 : decode cX11_touched 57 = .ok (.i2l, 1) := by decide +kernel
theorem dX11_touched_58 : decode cX11_touched 58 = .ok (.goto 14, 3) := by decide +kernel
theorem dX11_touched_61 : decode cX11_touched 61 = .ok (.aload_n 0, 1) := by decide +kernel
theorem dX11_touched_62 : decode cX11_touched 62 = .ok (.getfield 33, 3) := by decide +kernel
theorem dX11_touched_65 : decode cX11_touched 65 = .ok (.getfield 141, 3) := by decide +kernel
theorem dX11_touched_68 : decode cX11_touched 68 = .ok (.getfield 150, 3) := by decide +kernel
theorem dX11_touched_71 : decode cX11_touched 71 = .ok (.i2l, 1) := by decide +kernel
theorem dX11_touched_72 : decode cX11_touched 72 = .ok (.invokevirtual 196, 3) := by decide +kernel
theorem dX11_touched_75 : decode cX11_touched 75 = .ok (.aload_n 0, 1) := by decide +kernel
theorem dX11_touched_76 : decode cX11_touched 76 = .ok (.getfield 47, 3) := by decide +kernel
theorem dX11_touched_79 : decode cX11_touched 79 = .ok (.getfield 190, 3) := by decide +kernel
theorem dX11_touched_82 : decode cX11_touched 82 = .ok (.iload_n 2, 1) := by decide +kernel
theorem dX11_touched_83 : decode cX11_touched 83 = .ok (.isub, 1) := by decide +kernel
theorem dX11_touched_84 : decode cX11_touched 84 = .ok (.ireturn, 1) := by decide +kernel
theorem dX11_same_0 : decode cX11_same 0 = .ok (.iload_n 1, 1) := by decide +kernel
theorem dX11_same_1 : decode cX11_same 1 = .ok (.invokestatic 238, 3) := by decide +kernel
theorem dX11_same_4 : decode cX11_same 4 = .ok (.ifCond .eq 35, 3) := by decide +kernel
theorem dX11_same_7 : decode cX11_same 7 = .ok (.aload_n 0, 1) := by decide +kernel
theorem dX11_same_8 : decode cX11_same 8 = .ok (.iload_n 2, 1) := by decide +kernel
theorem dX11_same_9 : decode cX11_same 9 = .ok (.iload_n 3, 1) := by decide +kernel
theorem dX11_same_10 : decode cX11_same 10 = .ok (.invokevirtual 273, 3) := by decide +kernel
theorem dX11_same_13 : decode cX11_same 13 = .ok (.ifCond .eq 26, 3) := by decide +kernel
theorem dX11_same_16 : decode cX11_same 16 = .ok (.iload_n 2, 1) := by decide +kernel
theorem dX11_same_17 : decode cX11_same 17 = .ok (.iload_n 3, 1) := by decide +kernel
theorem dX11_same_18 : decode cX11_same 18 = .ok (.if_icmp .eq 21, 3) := by decide +kernel
theorem dX11_same_21 : decode cX11_same 21 = .ok (.aload_n 0, 1) := by decide +kernel
theorem dX11_same_22 : decode cX11_same 22 = .ok (.iload 4, 2) := by decide +kernel
theorem dX11_same_24 : decode cX11_same 24 = .ok (.iload 5, 2) := by decide +kernel
theorem dX11_same_26 : decode cX11_same 26 = .ok (.invokevirtual 273, 3) := by decide +kernel
theorem dX11_same_29 : decode cX11_same 29 = .ok (.ifCond .eq 10, 3) := by decide +kernel
theorem dX11_same_32 : decode cX11_same 32 = .ok (.iload 4, 2) := by decide +kernel
theorem dX11_same_34 : decode cX11_same 34 = .ok (.iload 5, 2) := by decide +kernel
theorem dX11_same_36 : decode cX11_same 36 = .ok (.if_icmp .ne 5, 3) := by decide +kernel
theorem dX11_same_39 : decode cX11_same 39 = .ok (.iconst (-1), 1) := by decide +kernel
theorem dX11_same_40 : decode cX11_same 40 = .ok (.ireturn, 1) := by decide +kernel
theorem dX11_same_41 : decode cX11_same 41 = .ok (.aload_n 0, 1) := by decide +kernel
theorem dX11_same_42 : decode cX11_same 42 = .ok (.getfield 40, 3) := by decide +kernel
theorem dX11_same_45 : decode cX11_same 45 = .ok (.iload_n 1, 1) := by decide +kernel
theorem dX11_same_46 : decode cX11_same 46 = .ok (.aload_n 0, 1) := by decide +kernel
theorem dX11_same_47 : decode cX11_same 47 = .ok (.getfield 33, 3) := by decide +kernel
theorem dX11_same_50 : decode cX11_same 50 = .ok (.getfield 141, 3) := by decide +kernel
theorem dX11_same_53 : decode cX11_same 53 = .ok (.iload_n 2, 1) := by decide +kernel
theorem dX11_same_54 : decode cX11_same 54 = .ok (.iload_n 3, 1) := by decide +kernel
theorem dX11_same_55 : decode cX11_same 55 = .ok (.invokevirtual 277, 3) := by decide +kernel
theorem dX11_same_58 : decode cX11_same 58 = .ok (.istore 6, 2) := by decide +kernel
theorem dX11_same_60 : decode cX11_same 60 = .ok (.aload_n 0, 1) := by decide +kernel
theorem dX11_same_61 : decode cX11_same 61 = .ok (.getfield 40, 3) := by decide +kernel
theorem dX11_same_64 : decode cX11_same 64 = .ok (.iload_n 1, 1) := by decide +kernel
theorem dX11_same_65 : decode cX11_same 65 = .ok (.aload_n 0, 1) := by decide +kernel
theorem dX11_same_66 : decode cX11_same 66 = .ok (.getfield 33, 3) := by decide +kernel
theorem dX11_same_69 : decode cX11_same 69 = .ok (.getfield 141, 3) := by decide +kernel
theorem dX11_same_72 : decode cX11_same 72 = .ok (.iload 4, 2) := by decide +kernel
theorem dX11_same_74 : decode cX11_same 74 = .ok (.iload 5, 2) := by decide +kernel
theorem dX11_same_76 : decode cX11_same 76 = .ok (.invokevirtual 277, 3) := by decide +kernel
theorem dX11_same_79 : decode cX11_same 79 = .ok (.istore 7, 2) := by decide +kernel
theorem dX11_same_81 : decode cX11_same 81 = .ok (.aload_n 0, 1) := by decide +kernel
theorem dX11_same_82 : decode cX11_same 82 = .ok (.iconst 0, 1) := by decide +kernel
theorem dX11_same_83 : decode cX11_same 83 = .ok (.putfield 100, 3) := by decide +kernel
theorem dX11_same_86 : decode cX11_same 86 = .ok (.aload_n 0, 1) := by decide +kernel
theorem dX11_same_87 : decode cX11_same 87 = .ok (.iload 6, 2) := by decide +kernel
theorem dX11_same_89 : decode cX11_same 89 = .ok (.iload 7, 2) := by decide +kernel
theorem dX11_same_91 : decode cX11_same 91 = .ok (.iand, 1) := by decide +kernel
theorem dX11_same_92 : decode cX11_same 92 = .ok (.invokestatic 296, 3) := by decide +kernel
theorem dX11_same_95 : decode cX11_same 95 = .ok (.i2l, 1) := by decide +kernel
theorem dX11_same_96 : decode cX11_same 96 = .ok (.invokevirtual 196, 3) := by decide +kernel
theorem dX11_same_99 : decode cX11_same 99 = .ok (.iload 6, 2) := by decide +kernel
theorem dX11_same_101 : decode cX11_same 101 = .ok (.iload 7, 2) := by decide +kernel
theorem dX11_same_103 : decode cX11_same 103 = .ok (.if_icmp .ne 7, 3) := by decide +kernel
theorem dX11_same_106 : decode cX11_same 106 = .ok (.iconst 1, 1) := by decide +kernel
theorem dX11_same_107 : decode cX11_same 107 = .ok (.goto 4, 3) := by decide +kernel
theorem dX11_same_110 : decode cX11_same 110 = .ok (.iconst 0, 1) := by decide +kernel
theorem dX11_same_111 : decode cX11_same 111 = .ok (.ireturn, 1) := by decide +kernel
theorem dX11_becomes_0 : decode cX11_becomes 0 = .ok (.aload_n 0, 1) := by decide +kernel
theorem dX11_becomes_1 : decode cX11_becomes 1 = .ok (.iconst 0, 1) := by decide +kernel
theorem dX11_becomes_2 : decode cX11_becomes 2 = .ok (.iload_n 1, 1) := by decide +kernel
theorem dX11_becomes_3 : decode cX11_becomes 3 = .ok (.iload_n 2, 1) := by decide +kernel
theorem dX11_becomes_4 : decode cX11_becomes 4 = .ok (.invokevirtual 336, 3) := by decide +kernel
theorem dX11_becomes_7 : decode cX11_becomes 7 = .ok (.ireturn, 1) := by decide +kernel
theorem dX11_comes_0 : decode cX11_comes 0 = .ok (.aload_n 0, 1) := by decide +kernel
theorem dX11_comes_1 : decode cX11_comes 1 = .ok (.iconst 1, 1) := by decide +kernel
theorem dX11_comes_2 : decode cX11_comes 2 = .ok (.iload_n 1, 1) := by decide +kernel
theorem dX11_comes_3 : decode cX11_comes 3 = .ok (.iload_n 2, 1) := by decide +kernel
theorem dX11_comes_4 : decode cX11_comes 4 = .ok (.invokevirtual 336, 3) := by decide +kernel
theorem dX11_comes_7 : decode cX11_comes 7 = .ok (.ireturn, 1) := by decide +kernel
theorem dX11_goes_0 : decode cX11_goes 0 = .ok (.aload_n 0, 1) := by decide +kernel
theorem dX11_goes_1 : decode cX11_goes 1 = .ok (.iconst 2, 1) := by decide +kernel
theorem dX11_goes_2 : decode cX11_goes 2 = .ok (.iload_n 1, 1) := by decide +kernel
theorem dX11_goes_3 : decode cX11_goes 3 = .ok (.iconst 0, 1) := by decide +kernel
theorem dX11_goes_4 : decode cX11_goes 4 = .ok (.invokevirtual 336, 3) := by decide +kernel
theorem dX11_goes_7 : decode cX11_goes 7 = .ok (.ireturn, 1) := by decide +kernel
theorem dX11_mends_0 : decode cX11_mends 0 = .ok (.aload_n 0, 1) := by decide +kernel
theorem dX11_mends_1 : decode cX11_mends 1 = .ok (.getfield 33, 3) := by decide +kernel
theorem dX11_mends_4 : decode cX11_mends 4 = .ok (.getfield 141, 3) := by decide +kernel
theorem dX11_mends_7 : decode cX11_mends 7 = .ok (.iload_n 1, 1) := by decide +kernel
theorem dX11_mends_8 : decode cX11_mends 8 = .ok (.invokevirtual 170, 3) := by decide +kernel
theorem dX11_mends_11 : decode cX11_mends 11 = .ok (.ifCond .ne 5, 3) := by decide +kernel
theorem dX11_mends_14 : decode cX11_mends 14 = .ok (.iconst (-1), 1) := by decide +kernel
theorem dX11_mends_15 : decode cX11_mends 15 = .ok (.ireturn, 1) := by decide +kernel
theorem dX11_mends_16 : decode cX11_mends 16 = .ok (.iconst 0, 1) := by decide +kernel
theorem dX11_mends_17 : decode cX11_mends 17 = .ok (.istore_n 2, 1) := by decide +kernel
theorem dX11_mends_18 : decode cX11_mends 18 = .ok (.bipush 25, 2) := by decide +kernel
theorem dX11_mends_20 : decode cX11_mends 20 = .ok (.istore_n 3, 1) := by decide +kernel
theorem dX11_mends_21 : decode cX11_mends 21 = .ok (.aload_n 0, 1) := by decide +kernel
theorem dX11_mends_22 : decode cX11_mends 22 = .ok (.getfield 57, 3) := by decide +kernel
theorem dX11_mends_25 : decode cX11_mends 25 = .ok (.aload_n 0, 1) := by decide +kernel
theorem dX11_mends_26 : decode cX11_mends 26 = .ok (.getfield 33, 3) := by decide +kernel
theorem dX11_mends_29 : decode cX11_mends 29 = .ok (.getfield 141, 3) := by decide +kernel
theorem dX11_mends_32 : decode cX11_mends 32 = .ok (.invokevirtual 340, 3) := by decide +kernel
theorem dX11_mends_35 : decode cX11_mends 35 = .ok (.iconst 0, 1) := by decide +kernel
theorem dX11_mends_36 : decode cX11_mends 36 = .ok (.istore 4, 2) := by decide +kernel
theorem dX11_mends_38 : decode cX11_mends 38 = .ok (.iload 4, 2) := by decide +kernel
theorem dX11_mends_40 : decode cX11_mends 40 = .ok (.bipush 8, 2) := by decide +kernel
theorem dX11_mends_42 : decode cX11_mends 42 = .ok (.if_icmp .ge 55, 3) := by decide +kernel
theorem dX11_mends_45 : decode cX11_mends 45 = .ok (.aload_n 0, 1) := by decide +kernel
theorem dX11_mends_46 : decode cX11_mends 46 = .ok (.getfield 57, 3) := by decide +kernel
theorem dX11_mends_49 : decode cX11_mends 49 = .ok (.iload_n 1, 1) := by decide +kernel
theorem dX11_mends_50 : decode cX11_mends 50 = .ok (.iload 4, 2) := by decide +kernel
theorem dX11_mends_52 : decode cX11_mends 52 = .ok (.invokevirtual 344, 3) := by decide +kernel
theorem dX11_mends_55 : decode cX11_mends 55 = .ok (.aload_n 0, 1) := by decide +kernel
theorem dX11_mends_56 : decode cX11_mends 56 = .ok (.getfield 61, 3) := by decide +kernel
theorem dX11_mends_59 : decode cX11_mends 59 = .ok (.aload_n 0, 1) := by decide +kernel
theorem dX11_mends_60 : decode cX11_mends 60 = .ok (.getfield 40, 3) := by decide +kernel
theorem dX11_mends_63 : decode cX11_mends 63 = .ok (.aload_n 0, 1) := by decide +kernel
theorem dX11_mends_64 : decode cX11_mends 64 = .ok (.getfield 57, 3) := by decide +kernel
theorem dX11_mends_67 : decode cX11_mends 67 = .ok (.invokevirtual 230, 3) := by decide +kernel
theorem dX11_mends_70 : decode cX11_mends 70 = .ok (.aload_n 0, 1) := by decide +kernel
theorem dX11_mends_71 : decode cX11_mends 71 = .ok (.getfield 61, 3) := by decide +kernel
theorem dX11_mends_74 : decode cX11_mends 74 = .ok (.invokevirtual 222, 3) := by decide +kernel
theorem dX11_mends_77 : decode cX11_mends 77 = .ok (.istore 5, 2) := by decide +kernel
theorem dX11_mends_79 : decode cX11_mends 79 = .ok (.iload 5, 2) := by decide +kernel
theorem dX11_mends_81 : decode cX11_mends 81 = .ok (.iload_n 3, 1) := by decide +kernel
theorem dX11_mends_82 : decode cX11_mends 82 = .ok (.if_icmp .ge 9, 3) := by decide +kernel
theorem dX11_mends_85 : decode cX11_mends 85 = .ok (.iload 4, 2) := by decide +kernel
theorem dX11_mends_87 : decode cX11_mends 87 = .ok (.istore_n 2, 1) := by decide +kernel
theorem dX11_mends_88 : decode cX11_mends 88 = .ok (.iload 5, 2) := by decide +kernel
theorem dX11_mends_90 : decode cX11_mends 90 = .ok (.istore_n 3, 1) := by decide +kernel
theorem dX11_mends_91 : decode cX11_mends 91 = .ok (.iinc 4 1, 3) := by decide +kernel
theorem dX11_mends_94 : decode cX11_mends 94 = .ok (.goto (-56), 3) := by decide +kernel
theorem dX11_mends_97 : decode cX11_mends 97 = .ok (.aload_n 0, 1) := by decide +kernel
theorem dX11_mends_98 : decode cX11_mends 98 = .ok (.iconst 0, 1) := by decide +kernel
theorem dX11_mends_99 : decode cX11_mends 99 = .ok (.putfield 100, 3) := by decide +kernel
theorem dX11_mends_102 : decode cX11_mends 102 = .ok (.aload_n 0, 1) := by decide +kernel
theorem dX11_mends_103 : decode cX11_mends 103 = .ok (.iload_n 3, 1) := by decide +kernel
theorem dX11_mends_104 : decode cX11_mends 104 = .ok (.i2l, 1) := by decide +kernel
theorem dX11_mends_105 : decode cX11_mends 105 = .ok (.invokevirtual 196, 3) := by decide +kernel
theorem dX11_mends_108 : decode cX11_mends 108 = .ok (.iload_n 2, 1) := by decide +kernel
theorem dX11_mends_109 : decode cX11_mends 109 = .ok (.ireturn, 1) := by decide +kernel
theorem dX11_day_0 : decode cX11_day 0 = .ok (.aload_n 0, 1) := by decide +kernel
theorem dX11_day_1 : decode cX11_day 1 = .ok (.getfield 19, 3) := by decide +kernel
theorem dX11_day_4 : decode cX11_day 4 = .ok (.aload_n 0, 1) := by decide +kernel
theorem dX11_day_5 : decode cX11_day 5 = .ok (.getfield 12, 3) := by decide +kernel
theorem dX11_day_8 : decode cX11_day 8 = .ok (.invokevirtual 347, 3) := by decide +kernel
theorem dX11_day_11 : decode cX11_day 11 = .ok (.istore_n 1, 1) := by decide +kernel
theorem dX11_day_12 : decode cX11_day 12 = .ok (.iload_n 1, 1) := by decide +kernel
theorem dX11_day_13 : decode cX11_day 13 = .ok (.ifCond .ge 7, 3) := by decide +kernel
theorem dX11_day_16 : decode cX11_day 16 = .ok (.iload_n 1, 1) := by decide +kernel
theorem dX11_day_17 : decode cX11_day 17 = .ok (.goto 7, 3) := by decide +kernel
theorem dX11_day_20 : decode cX11_day 20 = .ok (.aload_n 0, 1) := by decide +kernel
theorem dX11_day_21 : decode cX11_day 21 = .ok (.invokevirtual 350, 3) := by decide +kernel
theorem dX11_day_24 : decode cX11_day 24 = .ok (.istore_n 2, 1) := by decide +kernel
theorem dX11_day_25 : decode cX11_day 25 = .ok (.aload_n 0, 1) := by decide +kernel
theorem dX11_day_26 : decode cX11_day 26 = .ok (.getfield 12, 3) := by decide +kernel
theorem dX11_day_29 : decode cX11_day 29 = .ok (.invokevirtual 132, 3) := by decide +kernel
theorem dX11_day_32 : decode cX11_day 32 = .ok (.iload_n 2, 1) := by decide +kernel
theorem dX11_day_33 : decode cX11_day 33 = .ok (.ireturn, 1) := by decide +kernel
theorem dX11_undo_0 : decode cX11_undo 0 = .ok (.aload_n 0, 1) := by decide +kernel
theorem dX11_undo_1 : decode cX11_undo 1 = .ok (.getfield 88, 3) := by decide +kernel
theorem dX11_undo_4 : decode cX11_undo 4 = .ok (.aload_n 0, 1) := by decide +kernel
theorem dX11_undo_5 : decode cX11_undo 5 = .ok (.getfield 33, 3) := by decide +kernel
theorem dX11_undo_8 : decode cX11_undo 8 = .ok (.invokevirtual 353, 3) := by decide +kernel
theorem dX11_undo_11 : decode cX11_undo 11 = .ok (.ifCond .ne 5, 3) := by decide +kernel
theorem dX11_undo_14 : decode cX11_undo 14 = .ok (.iconst (-1), 1) := by decide +kernel
theorem dX11_undo_15 : decode cX11_undo 15 = .ok (.ireturn, 1) := by decide +kernel
theorem dX11_undo_16 : decode cX11_undo 16 = .ok (.aload_n 0, 1) := by decide +kernel
theorem dX11_undo_17 : decode cX11_undo 17 = .ok (.invokevirtual 129, 3) := by decide +kernel
theorem dX11_undo_20 : decode cX11_undo 20 = .ok (.aload_n 0, 1) := by decide +kernel
theorem dX11_undo_21 : decode cX11_undo 21 = .ok (.getfield 88, 3) := by decide +kernel
theorem dX11_undo_24 : decode cX11_undo 24 = .ok (.getfield 357, 3) := by decide +kernel
theorem dX11_undo_27 : decode cX11_undo 27 = .ok (.ireturn, 1) := by decide +kernel
theorem dX11_years_0 : decode cX11_years 0 = .ok (.iload_n 2, 1) := by decide +kernel
theorem dX11_years_1 : decode cX11_years 1 = .ok (.iconst 1, 1) := by decide +kernel
theorem dX11_years_2 : decode cX11_years 2 = .ok (.if_icmp .lt 9, 3) := by decide +kernel
theorem dX11_years_5 : decode cX11_years 5 = .ok (.iload_n 2, 1) := by decide +kernel
theorem dX11_years_6 : decode cX11_years 6 = .ok (.bipush 20, 2) := by decide +kernel
theorem dX11_years_8 : decode cX11_years 8 = .ok (.if_icmp .le 5, 3) := by decide +kernel
theorem dX11_years_11 : decode cX11_years 11 = .ok (.iconst (-1), 1) := by decide +kernel
theorem dX11_years_12 : decode cX11_years 12 = .ok (.ireturn, 1) := by decide +kernel
theorem dX11_years_13 : decode cX11_years 13 = .ok (.aload_n 0, 1) := by decide +kernel
theorem dX11_years_14 : decode cX11_years 14 = .ok (.getfield 57, 3) := by decide +kernel
theorem dX11_years_17 : decode cX11_years 17 = .ok (.aload_n 0, 1) := by decide +kernel
theorem dX11_years_18 : decode cX11_years 18 = .ok (.getfield 33, 3) := by decide +kernel
theorem dX11_years_21 : decode cX11_years 21 = .ok (.getfield 141, 3) := by decide +kernel
theorem dX11_years_24 : decode cX11_years 24 = .ok (.invokevirtual 340, 3) := by decide +kernel
theorem dX11_years_27 : decode cX11_years 27 = .ok (.iload_n 1, 1) := by decide +kernel
theorem dX11_years_28 : decode cX11_years 28 = .ok (.istore_n 3, 1) := by decide +kernel
theorem dX11_years_29 : decode cX11_years 29 = .ok (.iconst 0, 1) := by decide +kernel
theorem dX11_years_30 : decode cX11_years 30 = .ok (.istore 4, 2) := by decide +kernel
theorem dX11_years_32 : decode cX11_years 32 = .ok (.iload 4, 2) := by decide +kernel
theorem dX11_years_34 : decode cX11_years 34 = .ok (.iload_n 2, 1) := by decide +kernel
theorem dX11_years_35 : decode cX11_years 35 = .ok (.if_icmp .ge 69, 3) := by decide +kernel
theorem dX11_years_38 : decode cX11_years 38 = .ok (.iload_n 3, 1) := by decide +kernel
theorem dX11_years_39 : decode cX11_years 39 = .ok (.invokestatic 358, 3) := by decide +kernel
theorem dX11_years_42 : decode cX11_years 42 = .ok (.istore_n 3, 1) := by decide +kernel
theorem dX11_years_43 : decode cX11_years 43 = .ok (.iload_n 3, 1) := by decide +kernel
theorem dX11_years_44 : decode cX11_years 44 = .ok (.iconst 3, 1) := by decide +kernel
theorem dX11_years_45 : decode cX11_years 45 = .ok (.invokestatic 361, 3) := by decide +kernel
theorem dX11_years_48 : decode cX11_years 48 = .ok (.istore 5, 2) := by decide +kernel
theorem dX11_years_50 : decode cX11_years 50 = .ok (.iload_n 3, 1) := by decide +kernel
theorem dX11_years_51 : decode cX11_years 51 = .ok (.invokestatic 358, 3) := by decide +kernel
theorem dX11_years_54 : decode cX11_years 54 = .ok (.istore_n 3, 1) := by decide +kernel
theorem dX11_years_55 : decode cX11_years 55 = .ok (.iload_n 3, 1) := by decide +kernel
theorem dX11_years_56 : decode cX11_years 56 = .ok (.bipush 24, 2) := by decide +kernel
theorem dX11_years_58 : decode cX11_years 58 = .ok (.invokestatic 361, 3) := by decide +kernel
theorem dX11_years_61 : decode cX11_years 61 = .ok (.istore 6, 2) := by decide +kernel
theorem dX11_years_63 : decode cX11_years 63 = .ok (.iconst 0, 1) := by decide +kernel
theorem dX11_years_64 : decode cX11_years 64 = .ok (.istore 7, 2) := by decide +kernel
theorem dX11_years_66 : decode cX11_years 66 = .ok (.iload 5, 2) := by decide +kernel
theorem dX11_years_68 : decode cX11_years 68 = .ok (.iconst 2, 1) := by decide +kernel
theorem dX11_years_69 : decode cX11_years 69 = .ok (.if_icmp .eq 16, 3) := by decide +kernel
theorem dX11_years_72 : decode cX11_years 72 = .ok (.iload_n 3, 1) := by decide +kernel
theorem dX11_years_73 : decode cX11_years 73 = .ok (.invokestatic 358, 3) := by decide +kernel
theorem dX11_years_76 : decode cX11_years 76 = .ok (.istore_n 3, 1) := by decide +kernel
theorem dX11_years_77 : decode cX11_years 77 = .ok (.iload_n 3, 1) := by decide +kernel
theorem dX11_years_78 : decode cX11_years 78 = .ok (.bipush 8, 2) := by decide +kernel
theorem dX11_years_80 : decode cX11_years 80 = .ok (.invokestatic 361, 3) := by decide +kernel
theorem dX11_years_83 : decode cX11_years 83 = .ok (.istore 7, 2) := by decide +kernel
theorem dX11_years_85 : decode cX11_years 85 = .ok (.aload_n 0, 1) := by decide +kernel
theorem dX11_years_86 : decode cX11_years 86 = .ok (.getfield 57, 3) := by decide +kernel
theorem dX11_years_89 : decode cX11_years 89 = .ok (.iload 5, 2) := by decide +kernel
theorem dX11_years_91 : decode cX11_years 91 = .ok (.iload 6, 2) := by decide +kernel
theorem dX11_years_93 : decode cX11_years 93 = .ok (.iload 7, 2) := by decide +kernel
theorem dX11_years_95 : decode cX11_years 95 = .ok (.invokevirtual 364, 3) := by decide +kernel
theorem dX11_years_98 : decode cX11_years 98 = .ok (.iinc 4 1, 3) := by decide +kernel
theorem dX11_years_101 : decode cX11_years 101 = .ok (.goto (-69), 3) := by decide +kernel
theorem dX11_years_104 : decode cX11_years 104 = .ok (.aload_n 0, 1) := by decide +kernel
theorem dX11_years_105 : decode cX11_years 105 = .ok (.getfield 61, 3) := by decide +kernel
theorem dX11_years_108 : decode cX11_years 108 = .ok (.aload_n 0, 1) := by decide +kernel
theorem dX11_years_109 : decode cX11_years 109 = .ok (.getfield 40, 3) := by decide +kernel
theorem dX11_years_112 : decode cX11_years 112 = .ok (.aload_n 0, 1) := by decide +kernel
theorem dX11_years_113 : decode cX11_years 113 = .ok (.getfield 57, 3) := by decide +kernel
theorem dX11_years_116 : decode cX11_years 116 = .ok (.invokevirtual 230, 3) := by decide +kernel
theorem dX11_years_119 : decode cX11_years 119 = .ok (.aload_n 0, 1) := by decide +kernel
theorem dX11_years_120 : decode cX11_years 120 = .ok (.getfield 67, 3) := by decide +kernel
theorem dX11_years_123 : decode cX11_years 123 = .ok (.aload_n 0, 1) := by decide +kernel
theorem dX11_years_124 : decode cX11_years 124 = .ok (.getfield 40, 3) := by decide +kernel
theorem dX11_years_127 : decode cX11_years 127 = .ok (.aload_n 0, 1) := by decide +kernel
theorem dX11_years_128 : decode cX11_years 128 = .ok (.getfield 57, 3) := by decide +kernel
theorem dX11_years_131 : decode cX11_years 131 = .ok (.aload_n 0, 1) := by decide +kernel
theorem dX11_years_132 : decode cX11_years 132 = .ok (.getfield 61, 3) := by decide +kernel
theorem dX11_years_135 : decode cX11_years 135 = .ok (.invokevirtual 244, 3) := by decide +kernel
theorem dX11_years_138 : decode cX11_years 138 = .ok (.aload_n 0, 1) := by decide +kernel
theorem dX11_years_139 : decode cX11_years 139 = .ok (.iconst 0, 1) := by decide +kernel
theorem dX11_years_140 : decode cX11_years 140 = .ok (.putfield 100, 3) := by decide +kernel
theorem dX11_years_143 : decode cX11_years 143 = .ok (.aload_n 0, 1) := by decide +kernel
theorem dX11_years_144 : decode cX11_years 144 = .ok (.aload_n 0, 1) := by decide +kernel
theorem dX11_years_145 : decode cX11_years 145 = .ok (.getfield 61, 3) := by decide +kernel
theorem dX11_years_148 : decode cX11_years 148 = .ok (.invokevirtual 222, 3) := by decide +kernel
theorem dX11_years_151 : decode cX11_years 151 = .ok (.i2l, 1) := by decide +kernel
theorem dX11_years_152 : decode cX11_years 152 = .ok (.invokevirtual 196, 3) := by decide +kernel
theorem dX11_years_155 : decode cX11_years 155 = .ok (.aload_n 0, 1) := by decide +kernel
theorem dX11_years_156 : decode cX11_years 156 = .ok (.aload_n 0, 1) := by decide +kernel
theorem dX11_years_157 : decode cX11_years 157 = .ok (.getfield 57, 3) := by decide +kernel
theorem dX11_years_160 : decode cX11_years 160 = .ok (.getfield 150, 3) := by decide +kernel
theorem dX11_years_163 : decode cX11_years 163 = .ok (.i2l, 1) := by decide +kernel
theorem dX11_years_164 : decode cX11_years 164 = .ok (.invokevirtual 196, 3) := by decide +kernel
theorem dX11_years_167 : decode cX11_years 167 = .ok (.aload_n 0, 1) := by decide +kernel
theorem dX11_years_168 : decode cX11_years 168 = .ok (.aload_n 0, 1) := by decide +kernel
theorem dX11_years_169 : decode cX11_years 169 = .ok (.getfield 67, 3) := by decide +kernel
theorem dX11_years_172 : decode cX11_years 172 = .ok (.getfield 248, 3) := by decide +kernel
theorem dX11_years_175 : decode cX11_years 175 = .ok (.i2l, 1) := by decide +kernel
theorem dX11_years_176 : decode cX11_years 176 = .ok (.invokevirtual 196, 3) := by decide +kernel
theorem dX11_years_179 : decode cX11_years 179 = .ok (.aload_n 0, 1) := by decide +kernel
theorem dX11_years_180 : decode cX11_years 180 = .ok (.getfield 61, 3) := by decide +kernel
theorem dX11_years_183 : decode cX11_years 183 = .ok (.getfield 190, 3) := by decide +kernel
theorem dX11_years_186 : decode cX11_years 186 = .ok (.ireturn, 1) := by decide +kernel
theorem dX11_keep_0 : decode cX11_keep 0 = .ok (.iload_n 1, 1) := by decide +kernel
theorem dX11_keep_1 : decode cX11_keep 1 = .ok (.ifCond .lt 8, 3) := by decide +kernel
theorem dX11_keep_4 : decode cX11_keep 4 = .ok (.iload_n 1, 1) := by decide +kernel
theorem dX11_keep_5 : decode cX11_keep 5 = .ok (.iconst 2, 1) := by decide +kernel
theorem dX11_keep_6 : decode cX11_keep 6 = .ok (.if_icmp .lt 5, 3) := by decide +kernel
theorem dX11_keep_9 : decode cX11_keep 9 = .ok (.iconst 0, 1) := by decide +kernel
theorem dX11_keep_10 : decode cX11_keep 10 = .ok (.ireturn, 1) := by decide +kernel
theorem dX11_keep_11 : decode cX11_keep 11 = .ok (.aload_n 0, 1) := by decide +kernel
theorem dX11_keep_12 : decode cX11_keep 12 = .ok (.getfield 92, 3) := by decide +kernel
theorem dX11_keep_15 : decode cX11_keep 15 = .ok (.iload_n 1, 1) := by decide +kernel
theorem dX11_keep_16 : decode cX11_keep 16 = .ok (.aaload, 1) := by decide +kernel
theorem dX11_keep_17 : decode cX11_keep 17 = .ok (.astore_n 2, 1) := by decide +kernel
theorem dX11_keep_18 : decode cX11_keep 18 = .ok (.aload_n 2, 1) := by decide +kernel
theorem dX11_keep_19 : decode cX11_keep 19 = .ok (.ifnonnull 18, 3) := by decide +kernel
theorem dX11_keep_22 : decode cX11_keep 22 = .ok (.new 30, 3) := by decide +kernel
theorem dX11_keep_25 : decode cX11_keep 25 = .ok (.dup, 1) := by decide +kernel
theorem dX11_keep_26 : decode cX11_keep 26 = .ok (.invokespecial 32, 3) := by decide +kernel
theorem dX11_keep_29 : decode cX11_keep 29 = .ok (.astore_n 2, 1) := by decide +kernel
theorem dX11_keep_30 : decode cX11_keep 30 = .ok (.aload_n 0, 1) := by decide +kernel
theorem dX11_keep_31 : decode cX11_keep 31 = .ok (.getfield 92, 3) := by decide +kernel
theorem dX11_keep_34 : decode cX11_keep 34 = .ok (.iload_n 1, 1) := by decide +kernel
theorem dX11_keep_35 : decode cX11_keep 35 = .ok (.aload_n 2, 1) := by decide +kernel
theorem dX11_keep_36 : decode cX11_keep 36 = .ok (.aastore, 1) := by decide +kernel
theorem dX11_keep_37 : decode cX11_keep 37 = .ok (.aload_n 2, 1) := by decide +kernel
theorem dX11_keep_38 : decode cX11_keep 38 = .ok (.aload_n 0, 1) := by decide +kernel
theorem dX11_keep_39 : decode cX11_keep 39 = .ok (.getfield 33, 3) := by decide +kernel
theorem dX11_keep_42 : decode cX11_keep 42 = .ok (.invokevirtual 367, 3) := by decide +kernel
theorem dX11_keep_45 : decode cX11_keep 45 = .ok (.iconst 1, 1) := by decide +kernel
theorem dX11_keep_46 : decode cX11_keep 46 = .ok (.ireturn, 1) := by decide +kernel
theorem dX11_again_0 : decode cX11_again 0 = .ok (.iload_n 1, 1) := by decide +kernel
theorem dX11_again_1 : decode cX11_again 1 = .ok (.ifCond .lt 8, 3) := by decide +kernel
theorem dX11_again_4 : decode cX11_again 4 = .ok (.iload_n 1, 1) := by decide +kernel
theorem dX11_again_5 : decode cX11_again 5 = .ok (.iconst 2, 1) := by decide +kernel
theorem dX11_again_6 : decode cX11_again 6 = .ok (.if_icmp .lt 5, 3) := by decide +kernel
theorem dX11_again_9 : decode cX11_again 9 = .ok (.iconst 0, 1) := by decide +kernel
theorem dX11_again_10 : decode cX11_again 10 = .ok (.ireturn, 1) := by decide +kernel
theorem dX11_again_11 : decode cX11_again 11 = .ok (.aload_n 0, 1) := by decide +kernel
theorem dX11_again_12 : decode cX11_again 12 = .ok (.getfield 92, 3) := by decide +kernel
theorem dX11_again_15 : decode cX11_again 15 = .ok (.iload_n 1, 1) := by decide +kernel
theorem dX11_again_16 : decode cX11_again 16 = .ok (.aaload, 1) := by decide +kernel
theorem dX11_again_17 : decode cX11_again 17 = .ok (.astore_n 2, 1) := by decide +kernel
theorem dX11_again_18 : decode cX11_again 18 = .ok (.aload_n 2, 1) := by decide +kernel
theorem dX11_again_19 : decode cX11_again 19 = .ok (.ifnonnull 5, 3) := by decide +kernel
theorem dX11_again_22 : decode cX11_again 22 = .ok (.iconst 0, 1) := by decide +kernel
theorem dX11_again_23 : decode cX11_again 23 = .ok (.ireturn, 1) := by decide +kernel
theorem dX11_again_24 : decode cX11_again 24 = .ok (.aload_n 0, 1) := by decide +kernel
theorem dX11_again_25 : decode cX11_again 25 = .ok (.getfield 33, 3) := by decide +kernel
theorem dX11_again_28 : decode cX11_again 28 = .ok (.aload_n 2, 1) := by decide +kernel
theorem dX11_again_29 : decode cX11_again 29 = .ok (.invokevirtual 367, 3) := by decide +kernel
theorem dX11_again_32 : decode cX11_again 32 = .ok (.aload_n 0, 1) := by decide +kernel
theorem dX11_again_33 : decode cX11_again 33 = .ok (.getfield 88, 3) := by decide +kernel
theorem dX11_again_36 : decode cX11_again 36 = .ok (.invokevirtual 369, 3) := by decide +kernel
theorem dX11_again_39 : decode cX11_again 39 = .ok (.aload_n 0, 1) := by decide +kernel
theorem dX11_again_40 : decode cX11_again 40 = .ok (.invokevirtual 129, 3) := by decide +kernel
theorem dX11_again_43 : decode cX11_again 43 = .ok (.iconst 1, 1) := by decide +kernel
theorem dX11_again_44 : decode cX11_again 44 = .ok (.ireturn, 1) := by decide +kernel
theorem dX11_count_0 : decode cX11_count 0 = .ok (.iload_n 1, 1) := by decide +kernel
theorem dX11_count_1 : decode cX11_count 1 = .ok (.tableswitch 123 0 8 #[51, 59, 70, 78, 86, 91, 99, 107, 115], 51) := by decide +kernel
theorem dX11_count_52 : decode cX11_count 52 = .ok (.aload_n 0, 1) := by decide +kernel
theorem dX11_count_53 : decode cX11_count 53 = .ok (.getfield 40, 3) := by decide +kernel
theorem dX11_count_56 : decode cX11_count 56 = .ok (.getfield 135, 3) := by decide +kernel
theorem dX11_count_59 : decode cX11_count 59 = .ok (.ireturn, 1) := by decide +kernel
theorem dX11_count_60 : decode cX11_count 60 = .ok (.aload_n 0, 1) := by decide +kernel
theorem dX11_count_61 : decode cX11_count 61 = .ok (.getfield 33, 3) := by decide +kernel
theorem dX11_count_64 : decode cX11_count 64 = .ok (.getfield 141, 3) := by decide +kernel
theorem dX11_count_67 : decode cX11_count 67 = .ok (.getfield 150, 3) := by decide +kernel
theorem dX11_count_70 : decode cX11_count 70 = .ok (.ireturn, 1) := by decide +kernel
theorem dX11_count_71 : decode cX11_count 71 = .ok (.aload_n 0, 1) := by decide +kernel
theorem dX11_count_72 : decode cX11_count 72 = .ok (.getfield 47, 3) := by decide +kernel
theorem dX11_count_75 : decode cX11_count 75 = .ok (.getfield 190, 3) := by decide +kernel
theorem dX11_count_78 : decode cX11_count 78 = .ok (.ireturn, 1) := by decide +kernel
theorem dX11_count_79 : decode cX11_count 79 = .ok (.aload_n 0, 1) := by decide +kernel
theorem dX11_count_80 : decode cX11_count 80 = .ok (.getfield 88, 3) := by decide +kernel
theorem dX11_count_83 : decode cX11_count 83 = .ok (.getfield 357, 3) := by decide +kernel
theorem dX11_count_86 : decode cX11_count 86 = .ok (.ireturn, 1) := by decide +kernel
theorem dX11_count_87 : decode cX11_count 87 = .ok (.aload_n 0, 1) := by decide +kernel
theorem dX11_count_88 : decode cX11_count 88 = .ok (.getfield 100, 3) := by decide +kernel
theorem dX11_count_91 : decode cX11_count 91 = .ok (.ireturn, 1) := by decide +kernel
theorem dX11_count_92 : decode cX11_count 92 = .ok (.aload_n 0, 1) := by decide +kernel
theorem dX11_count_93 : decode cX11_count 93 = .ok (.getfield 12, 3) := by decide +kernel
theorem dX11_count_96 : decode cX11_count 96 = .ok (.getfield 108, 3) := by decide +kernel
theorem dX11_count_99 : decode cX11_count 99 = .ok (.ireturn, 1) := by decide +kernel
theorem dX11_count_100 : decode cX11_count 100 = .ok (.aload_n 0, 1) := by decide +kernel
theorem dX11_count_101 : decode cX11_count 101 = .ok (.getfield 47, 3) := by decide +kernel
theorem dX11_count_104 : decode cX11_count 104 = .ok (.getfield 372, 3) := by decide +kernel
theorem dX11_count_107 : decode cX11_count 107 = .ok (.ireturn, 1) := by decide +kernel
theorem dX11_count_108 : decode cX11_count 108 = .ok (.aload_n 0, 1) := by decide +kernel
theorem dX11_count_109 : decode cX11_count 109 = .ok (.getfield 40, 3) := by decide +kernel
theorem dX11_count_112 : decode cX11_count 112 = .ok (.invokevirtual 375, 3) := by decide +kernel
theorem dX11_count_115 : decode cX11_count 115 = .ok (.ireturn, 1) := by decide +kernel
theorem dX11_count_116 : decode cX11_count 116 = .ok (.aload_n 0, 1) := by decide +kernel
theorem dX11_count_117 : decode cX11_count 117 = .ok (.getfield 40, 3) := by decide +kernel
theorem dX11_count_120 : decode cX11_count 120 = .ok (.invokevirtual 378, 3) := by decide +kernel
theorem dX11_count_123 : decode cX11_count 123 = .ok (.ireturn, 1) := by decide +kernel
theorem dX11_count_124 : decode cX11_count 124 = .ok (.iconst (-1), 1) := by decide +kernel
theorem dX11_count_125 : decode cX11_count 125 = .ok (.ireturn, 1) := by decide +kernel
theorem dX11_row_0 : decode cX11_row 0 = .ok (.iload_n 1, 1) := by decide +kernel
theorem dX11_row_1 : decode cX11_row 1 = .ok (.ifCond .lt 20, 3) := by decide +kernel
theorem dX11_row_4 : decode cX11_row 4 = .ok (.iload_n 1, 1) := by decide +kernel
theorem dX11_row_5 : decode cX11_row 5 = .ok (.aload_n 0, 1) := by decide +kernel
theorem dX11_row_6 : decode cX11_row 6 = .ok (.getfield 100, 3) := by decide +kernel
theorem dX11_row_9 : decode cX11_row 9 = .ok (.if_icmp .ge 12, 3) := by decide +kernel
theorem dX11_row_12 : decode cX11_row 12 = .ok (.iload_n 1, 1) := by decide +kernel
theorem dX11_row_13 : decode cX11_row 13 = .ok (.aload_n 0, 1) := by decide +kernel
theorem dX11_row_14 : decode cX11_row 14 = .ok (.getfield 96, 3) := by decide +kernel
theorem dX11_row_17 : decode cX11_row 17 = .ok (.arraylength, 1) := by decide +kernel
theorem dX11_row_18 : decode cX11_row 18 = .ok (.if_icmp .lt 11, 3) := by decide +kernel
theorem dX11_row_21 : decode cX11_row 21 = .ok (.new 151, 3) := by decide +kernel
theorem dX11_row_24 : decode cX11_row 24 = .ok (.dup, 1) := by decide +kernel
theorem dX11_row_25 : decode cX11_row 25 = .ok (.invokespecial 153, 3) := by decide +kernel
theorem dX11_row_28 : decode cX11_row 28 = .ok (.athrow, 1) := by decide +kernel
theorem dX11_row_29 : decode cX11_row 29 = .ok (.aload_n 0, 1) := by decide +kernel
theorem dX11_row_30 : decode cX11_row 30 = .ok (.getfield 96, 3) := by decide +kernel
theorem dX11_row_33 : decode cX11_row 33 = .ok (.iload_n 1, 1) := by decide +kernel
theorem dX11_row_34 : decode cX11_row 34 = .ok (.laload, 1) := by decide +kernel
theorem dX11_row_35 : decode cX11_row 35 = .ok (.lreturn, 1) := by decide +kernel
theorem dX11_tell_0 : decode cX11_tell 0 = .ok (.aload_n 0, 1) := by decide +kernel
theorem dX11_tell_1 : decode cX11_tell 1 = .ok (.getfield 100, 3) := by decide +kernel
theorem dX11_tell_4 : decode cX11_tell 4 = .ok (.ifCond .lt 35, 3) := by decide +kernel
theorem dX11_tell_7 : decode cX11_tell 7 = .ok (.aload_n 0, 1) := by decide +kernel
theorem dX11_tell_8 : decode cX11_tell 8 = .ok (.getfield 100, 3) := by decide +kernel
theorem dX11_tell_11 : decode cX11_tell 11 = .ok (.aload_n 0, 1) := by decide +kernel
theorem dX11_tell_12 : decode cX11_tell 12 = .ok (.getfield 96, 3) := by decide +kernel
theorem dX11_tell_15 : decode cX11_tell 15 = .ok (.arraylength, 1) := by decide +kernel
theorem dX11_tell_16 : decode cX11_tell 16 = .ok (.if_icmp .ge 23, 3) := by decide +kernel
theorem dX11_tell_19 : decode cX11_tell 19 = .ok (.aload_n 0, 1) := by decide +kernel
theorem dX11_tell_20 : decode cX11_tell 20 = .ok (.getfield 96, 3) := by decide +kernel
theorem dX11_tell_23 : decode cX11_tell 23 = .ok (.aload_n 0, 1) := by decide +kernel
theorem dX11_tell_24 : decode cX11_tell 24 = .ok (.getfield 100, 3) := by decide +kernel
theorem dX11_tell_27 : decode cX11_tell 27 = .ok (.lload_n 1, 1) := by decide +kernel
theorem dX11_tell_28 : decode cX11_tell 28 = .ok (.lastore, 1) := by decide +kernel
theorem dX11_tell_29 : decode cX11_tell 29 = .ok (.aload_n 0, 1) := by decide +kernel
theorem dX11_tell_30 : decode cX11_tell 30 = .ok (.dup, 1) := by decide +kernel
theorem dX11_tell_31 : decode cX11_tell 31 = .ok (.getfield 100, 3) := by decide +kernel
theorem dX11_tell_34 : decode cX11_tell 34 = .ok (.iconst 1, 1) := by decide +kernel
theorem dX11_tell_35 : decode cX11_tell 35 = .ok (.iadd, 1) := by decide +kernel
theorem dX11_tell_36 : decode cX11_tell 36 = .ok (.putfield 100, 3) := by decide +kernel
theorem dX11_tell_39 : decode cX11_tell 39 = .ok (.return_, 1) := by decide +kernel
theorem dX11_tellRowTo_0 : decode cX11_tellRowTo 0 = .ok (.aload_n 0, 1) := by decide +kernel
theorem dX11_tellRowTo_1 : decode cX11_tellRowTo 1 = .ok (.getfield 74, 3) := by decide +kernel
theorem dX11_tellRowTo_4 : decode cX11_tellRowTo 4 = .ok (.iload_n 1, 1) := by decide +kernel
theorem dX11_tellRowTo_5 : decode cX11_tellRowTo 5 = .ok (.invokevirtual 381, 3) := by decide +kernel
theorem dX11_tellRowTo_8 : decode cX11_tellRowTo 8 = .ok (.istore_n 2, 1) := by decide +kernel
theorem dX11_tellRowTo_9 : decode cX11_tellRowTo 9 = .ok (.aload_n 0, 1) := by decide +kernel
theorem dX11_tellRowTo_10 : decode cX11_tellRowTo 10 = .ok (.iconst 0, 1) := by decide +kernel
theorem dX11_tellRowTo_11 : decode cX11_tellRowTo 11 = .ok (.putfield 100, 3) := by decide +kernel
theorem dX11_tellRowTo_14 : decode cX11_tellRowTo 14 = .ok (.iload_n 2, 1) := by decide +kernel
theorem dX11_tellRowTo_15 : decode cX11_tellRowTo 15 = .ok (.iconst 1, 1) := by decide +kernel
theorem dX11_tellRowTo_16 : decode cX11_tellRowTo 16 = .ok (.isub, 1) := by decide +kernel
theorem dX11_tellRowTo_17 : decode cX11_tellRowTo 17 = .ok (.istore_n 3, 1) := by decide +kernel
theorem dX11_tellRowTo_18 : decode cX11_tellRowTo 18 = .ok (.iload_n 3, 1) := by decide +kernel
theorem dX11_tellRowTo_19 : decode cX11_tellRowTo 19 = .ok (.ifCond .lt 23, 3) := by decide +kernel
theorem dX11_tellRowTo_22 : decode cX11_tellRowTo 22 = .ok (.aload_n 0, 1) := by decide +kernel
theorem dX11_tellRowTo_23 : decode cX11_tellRowTo 23 = .ok (.aload_n 0, 1) := by decide +kernel
theorem dX11_tellRowTo_24 : decode cX11_tellRowTo 24 = .ok (.getfield 74, 3) := by decide +kernel
theorem dX11_tellRowTo_27 : decode cX11_tellRowTo 27 = .ok (.getfield 384, 3) := by decide +kernel
theorem dX11_tellRowTo_30 : decode cX11_tellRowTo 30 = .ok (.iload_n 3, 1) := by decide +kernel
theorem dX11_tellRowTo_31 : decode cX11_tellRowTo 31 = .ok (.iaload, 1) := by decide +kernel
theorem dX11_tellRowTo_32 : decode cX11_tellRowTo 32 = .ok (.i2l, 1) := by decide +kernel
theorem dX11_tellRowTo_33 : decode cX11_tellRowTo 33 = .ok (.invokevirtual 196, 3) := by decide +kernel
theorem dX11_tellRowTo_36 : decode cX11_tellRowTo 36 = .ok (.iinc 3 (-1), 3) := by decide +kernel
theorem dX11_tellRowTo_39 : decode cX11_tellRowTo 39 = .ok (.goto (-21), 3) := by decide +kernel
theorem dX11_tellRowTo_42 : decode cX11_tellRowTo 42 = .ok (.iload_n 2, 1) := by decide +kernel
theorem dX11_tellRowTo_43 : decode cX11_tellRowTo 43 = .ok (.ireturn, 1) := by decide +kernel
theorem dX11_refresh_0 : decode cX11_refresh 0 = .ok (.aload_n 0, 1) := by decide +kernel
theorem dX11_refresh_1 : decode cX11_refresh 1 = .ok (.getfield 26, 3) := by decide +kernel
theorem dX11_refresh_4 : decode cX11_refresh 4 = .ok (.aload_n 0, 1) := by decide +kernel
theorem dX11_refresh_5 : decode cX11_refresh 5 = .ok (.getfield 40, 3) := by decide +kernel
theorem dX11_refresh_8 : decode cX11_refresh 8 = .ok (.aload_n 0, 1) := by decide +kernel
theorem dX11_refresh_9 : decode cX11_refresh 9 = .ok (.getfield 33, 3) := by decide +kernel
theorem dX11_refresh_12 : decode cX11_refresh 12 = .ok (.invokevirtual 226, 3) := by decide +kernel
theorem dX11_refresh_15 : decode cX11_refresh 15 = .ok (.aload_n 0, 1) := by decide +kernel
theorem dX11_refresh_16 : decode cX11_refresh 16 = .ok (.invokevirtual 147, 3) := by decide +kernel
theorem dX11_refresh_19 : decode cX11_refresh 19 = .ok (.return_, 1) := by decide +kernel
theorem dX11_recut_0 : decode cX11_recut 0 = .ok (.aload_n 0, 1) := by decide +kernel
theorem dX11_recut_1 : decode cX11_recut 1 = .ok (.getfield 47, 3) := by decide +kernel
theorem dX11_recut_4 : decode cX11_recut 4 = .ok (.aload_n 0, 1) := by decide +kernel
theorem dX11_recut_5 : decode cX11_recut 5 = .ok (.getfield 40, 3) := by decide +kernel
theorem dX11_recut_8 : decode cX11_recut 8 = .ok (.aload_n 0, 1) := by decide +kernel
theorem dX11_recut_9 : decode cX11_recut 9 = .ok (.getfield 33, 3) := by decide +kernel
theorem dX11_recut_12 : decode cX11_recut 12 = .ok (.getfield 141, 3) := by decide +kernel
theorem dX11_recut_15 : decode cX11_recut 15 = .ok (.invokevirtual 230, 3) := by decide +kernel
theorem dX11_recut_18 : decode cX11_recut 18 = .ok (.return_, 1) := by decide +kernel
theorem dX11_isStretch_0 : decode cX11_isStretch 0 = .ok (.iload_n 1, 1) := by decide +kernel
theorem dX11_isStretch_1 : decode cX11_isStretch 1 = .ok (.ifCond .lt 26, 3) := by decide +kernel
theorem dX11_isStretch_4 : decode cX11_isStretch 4 = .ok (.iload_n 1, 1) := by decide +kernel
theorem dX11_isStretch_5 : decode cX11_isStretch 5 = .ok (.iload_n 2, 1) := by decide +kernel
theorem dX11_isStretch_6 : decode cX11_isStretch 6 = .ok (.if_icmp .gt 21, 3) := by decide +kernel
theorem dX11_isStretch_9 : decode cX11_isStretch 9 = .ok (.iload_n 2, 1) := by decide +kernel
theorem dX11_isStretch_10 : decode cX11_isStretch 10 = .ok (.aload_n 0, 1) := by decide +kernel
theorem dX11_isStretch_11 : decode cX11_isStretch 11 = .ok (.getfield 33, 3) := by decide +kernel
theorem dX11_isStretch_14 : decode cX11_isStretch 14 = .ok (.getfield 141, 3) := by decide +kernel
theorem dX11_isStretch_17 : decode cX11_isStretch 17 = .ok (.getfield 150, 3) := by decide +kernel
theorem dX11_isStretch_20 : decode cX11_isStretch 20 = .ok (.if_icmp .gt 7, 3) := by decide +kernel
theorem dX11_isStretch_23 : decode cX11_isStretch 23 = .ok (.iconst 1, 1) := by decide +kernel
theorem dX11_isStretch_24 : decode cX11_isStretch 24 = .ok (.goto 4, 3) := by decide +kernel
theorem dX11_isStretch_27 : decode cX11_isStretch 27 = .ok (.iconst 0, 1) := by decide +kernel
theorem dX11_isStretch_28 : decode cX11_isStretch 28 = .ok (.ireturn, 1) := by decide +kernel
theorem dX11_change_0 : decode cX11_change 0 = .ok (.aload_n 0, 1) := by decide +kernel
theorem dX11_change_1 : decode cX11_change 1 = .ok (.getfield 33, 3) := by decide +kernel
theorem dX11_change_4 : decode cX11_change 4 = .ok (.getfield 141, 3) := by decide +kernel
theorem dX11_change_7 : decode cX11_change 7 = .ok (.iload_n 1, 1) := by decide +kernel
theorem dX11_change_8 : decode cX11_change 8 = .ok (.iload_n 2, 1) := by decide +kernel
theorem dX11_change_9 : decode cX11_change 9 = .ok (.iload_n 3, 1) := by decide +kernel
theorem dX11_change_10 : decode cX11_change 10 = .ok (.invokevirtual 387, 3) := by decide +kernel
theorem dX11_change_13 : decode cX11_change 13 = .ok (.istore 4, 2) := by decide +kernel
theorem dX11_change_15 : decode cX11_change 15 = .ok (.iload 4, 2) := by decide +kernel
theorem dX11_change_17 : decode cX11_change 17 = .ok (.ifCond .ge 6, 3) := by decide +kernel
theorem dX11_change_20 : decode cX11_change 20 = .ok (.iload 4, 2) := by decide +kernel
theorem dX11_change_22 : decode cX11_change 22 = .ok (.ireturn, 1) := by decide +kernel
theorem dX11_change_23 : decode cX11_change 23 = .ok (.aload_n 0, 1) := by decide +kernel
theorem dX11_change_24 : decode cX11_change 24 = .ok (.getfield 88, 3) := by decide +kernel
theorem dX11_change_27 : decode cX11_change 27 = .ok (.aload_n 0, 1) := by decide +kernel
theorem dX11_change_28 : decode cX11_change 28 = .ok (.getfield 33, 3) := by decide +kernel
theorem dX11_change_31 : decode cX11_change 31 = .ok (.invokevirtual 121, 3) := by decide +kernel
theorem dX11_change_34 : decode cX11_change 34 = .ok (.aload_n 0, 1) := by decide +kernel
theorem dX11_change_35 : decode cX11_change 35 = .ok (.getfield 47, 3) := by decide +kernel
theorem dX11_change_38 : decode cX11_change 38 = .ok (.astore 5, 2) := by decide +kernel
theorem dX11_change_40 : decode cX11_change 40 = .ok (.aload_n 0, 1) := by decide +kernel
theorem dX11_change_41 : decode cX11_change 41 = .ok (.aload_n 0, 1) := by decide +kernel
theorem dX11_change_42 : decode cX11_change 42 = .ok (.getfield 61, 3) := by decide +kernel
theorem dX11_change_45 : decode cX11_change 45 = .ok (.putfield 47, 3) := by decide +kernel
theorem dX11_change_48 : decode cX11_change 48 = .ok (.aload_n 0, 1) := by decide +kernel
theorem dX11_change_49 : decode cX11_change 49 = .ok (.aload 5, 2) := by decide +kernel
theorem dX11_change_51 : decode cX11_change 51 = .ok (.putfield 61, 3) := by decide +kernel
theorem dX11_change_54 : decode cX11_change 54 = .ok (.aload_n 0, 1) := by decide +kernel
theorem dX11_change_55 : decode cX11_change 55 = .ok (.getfield 33, 3) := by decide +kernel
theorem dX11_change_58 : decode cX11_change 58 = .ok (.getfield 141, 3) := by decide +kernel
theorem dX11_change_61 : decode cX11_change 61 = .ok (.iload_n 1, 1) := by decide +kernel
theorem dX11_change_62 : decode cX11_change 62 = .ok (.iload_n 2, 1) := by decide +kernel
theorem dX11_change_63 : decode cX11_change 63 = .ok (.iload_n 3, 1) := by decide +kernel
theorem dX11_change_64 : decode cX11_change 64 = .ok (.invokevirtual 364, 3) := by decide +kernel
theorem dX11_change_67 : decode cX11_change 67 = .ok (.aload_n 0, 1) := by decide +kernel
theorem dX11_change_68 : decode cX11_change 68 = .ok (.invokevirtual 147, 3) := by decide +kernel
theorem dX11_change_71 : decode cX11_change 71 = .ok (.aload_n 0, 1) := by decide +kernel
theorem dX11_change_72 : decode cX11_change 72 = .ok (.iload_n 1, 1) := by decide +kernel
theorem dX11_change_73 : decode cX11_change 73 = .ok (.iload_n 2, 1) := by decide +kernel
theorem dX11_change_74 : decode cX11_change 74 = .ok (.invokevirtual 390, 3) := by decide +kernel
theorem dX11_change_77 : decode cX11_change 77 = .ok (.aload_n 0, 1) := by decide +kernel
theorem dX11_change_78 : decode cX11_change 78 = .ok (.getfield 47, 3) := by decide +kernel
theorem dX11_change_81 : decode cX11_change 81 = .ok (.getfield 190, 3) := by decide +kernel
theorem dX11_change_84 : decode cX11_change 84 = .ok (.ireturn, 1) := by decide +kernel
theorem dX11_tellChange_0 : decode cX11_tellChange 0 = .ok (.aload_n 0, 1) := by decide +kernel
theorem dX11_tellChange_1 : decode cX11_tellChange 1 = .ok (.getfield 61, 3) := by decide +kernel
theorem dX11_tellChange_4 : decode cX11_tellChange 4 = .ok (.astore_n 3, 1) := by decide +kernel
theorem dX11_tellChange_5 : decode cX11_tellChange 5 = .ok (.iload_n 1, 1) := by decide +kernel
theorem dX11_tellChange_6 : decode cX11_tellChange 6 = .ok (.iconst 1, 1) := by decide +kernel
theorem dX11_tellChange_7 : decode cX11_tellChange 7 = .ok (.if_icmp .ne 7, 3) := by decide +kernel
theorem dX11_tellChange_10 : decode cX11_tellChange 10 = .ok (.iconst 1, 1) := by decide +kernel
theorem dX11_tellChange_11 : decode cX11_tellChange 11 = .ok (.goto 13, 3) := by decide +kernel
theorem dX11_tellChange_14 : decode cX11_tellChange 14 = .ok (.iload_n 1, 1) := by decide +kernel
theorem dX11_tellChange_15 : decode cX11_tellChange 15 = .ok (.iconst 2, 1) := by decide +kernel
theorem dX11_tellChange_16 : decode cX11_tellChange 16 = .ok (.if_icmp .ne 7, 3) := by decide +kernel
theorem dX11_tellChange_19 : decode cX11_tellChange 19 = .ok (.iconst (-1), 1) := by decide +kernel
theorem dX11_tellChange_20 : decode cX11_tellChange 20 = .ok (.goto 4, 3) := by decide +kernel
theorem dX11_tellChange_23 : decode cX11_tellChange 23 = .ok (.iconst 0, 1) := by decide +kernel
theorem dX11_tellChange_24 : decode cX11_tellChange 24 = .ok (.istore 4, 2) := by decide +kernel
theorem dX11_tellChange_26 : decode cX11_tellChange 26 = .ok (.aload_n 3, 1) := by decide +kernel
theorem dX11_tellChange_27 : decode cX11_tellChange 27 = .ok (.iload_n 2, 1) := by decide +kernel
theorem dX11_tellChange_28 : decode cX11_tellChange 28 = .ok (.invokevirtual 333, 3) := by decide +kernel
theorem dX11_tellChange_31 : decode cX11_tellChange 31 = .ok (.istore 5, 2) := by decide +kernel
theorem dX11_tellChange_33 : decode cX11_tellChange 33 = .ok (.iconst 0, 1) := by decide +kernel
theorem dX11_tellChange_34 : decode cX11_tellChange 34 = .ok (.istore 6, 2) := by decide +kernel
theorem dX11_tellChange_36 : decode cX11_tellChange 36 = .ok (.iconst 0, 1) := by decide +kernel
theorem dX11_tellChange_37 : decode cX11_tellChange 37 = .ok (.istore 7, 2) := by decide +kernel
theorem dX11_tellChange_39 : decode cX11_tellChange 39 = .ok (.iconst 0, 1) := by decide +kernel
theorem dX11_tellChange_40 : decode cX11_tellChange 40 = .ok (.istore 8, 2) := by decide +kernel
theorem dX11_tellChange_42 : decode cX11_tellChange 42 = .ok (.iload 5, 2) := by decide +kernel
theorem dX11_tellChange_44 : decode cX11_tellChange 44 = .ok (.istore 9, 2) := by decide +kernel
theorem dX11_tellChange_46 : decode cX11_tellChange 46 = .ok (.iload 9, 2) := by decide +kernel
theorem dX11_tellChange_48 : decode cX11_tellChange 48 = .ok (.aload_n 0, 1) := by decide +kernel
theorem dX11_tellChange_49 : decode cX11_tellChange 49 = .ok (.getfield 47, 3) := by decide +kernel
theorem dX11_tellChange_52 : decode cX11_tellChange 52 = .ok (.getfield 190, 3) := by decide +kernel
theorem dX11_tellChange_55 : decode cX11_tellChange 55 = .ok (.if_icmp .ge 104, 3) := by decide +kernel
theorem dX11_tellChange_58 : decode cX11_tellChange 58 = .ok (.iload 8, 2) := by decide +kernel
theorem dX11_tellChange_60 : decode cX11_tellChange 60 = .ok (.ifCond .ne 99, 3) := by decide +kernel
theorem dX11_tellChange_63 : decode cX11_tellChange 63 = .ok (.iinc 6 1, 3) := by decide +kernel
theorem dX11_tellChange_66 : decode cX11_tellChange 66 = .ok (.aload_n 0, 1) := by decide +kernel
theorem dX11_tellChange_67 : decode cX11_tellChange 67 = .ok (.getfield 47, 3) := by decide +kernel
theorem dX11_tellChange_70 : decode cX11_tellChange 70 = .ok (.getfield 193, 3) := by decide +kernel
theorem dX11_tellChange_73 : decode cX11_tellChange 73 = .ok (.iload 9, 2) := by decide +kernel
theorem dX11_tellChange_75 : decode cX11_tellChange 75 = .ok (.iaload, 1) := by decide +kernel
theorem dX11_tellChange_76 : decode cX11_tellChange 76 = .ok (.istore 10, 2) := by decide +kernel
theorem dX11_tellChange_78 : decode cX11_tellChange 78 = .ok (.aload_n 3, 1) := by decide +kernel
theorem dX11_tellChange_79 : decode cX11_tellChange 79 = .ok (.iload 10, 2) := by decide +kernel
theorem dX11_tellChange_81 : decode cX11_tellChange 81 = .ok (.iload 4, 2) := by decide +kernel
theorem dX11_tellChange_83 : decode cX11_tellChange 83 = .ok (.isub, 1) := by decide +kernel
theorem dX11_tellChange_84 : decode cX11_tellChange 84 = .ok (.invokevirtual 393, 3) := by decide +kernel
theorem dX11_tellChange_87 : decode cX11_tellChange 87 = .ok (.istore 11, 2) := by decide +kernel
theorem dX11_tellChange_89 : decode cX11_tellChange 89 = .ok (.iload_n 2, 1) := by decide +kernel
theorem dX11_tellChange_90 : decode cX11_tellChange 90 = .ok (.iload 10, 2) := by decide +kernel
theorem dX11_tellChange_92 : decode cX11_tellChange 92 = .ok (.if_icmp .lt 14, 3) := by decide +kernel
theorem dX11_tellChange_95 : decode cX11_tellChange 95 = .ok (.iload_n 1, 1) := by decide +kernel
theorem dX11_tellChange_96 : decode cX11_tellChange 96 = .ok (.iconst 2, 1) := by decide +kernel
theorem dX11_tellChange_97 : decode cX11_tellChange 97 = .ok (.if_icmp .ne 13, 3) := by decide +kernel
theorem dX11_tellChange_100 : decode cX11_tellChange 100 = .ok (.iload_n 2, 1) := by decide +kernel
theorem dX11_tellChange_101 : decode cX11_tellChange 101 = .ok (.iload 10, 2) := by decide +kernel
theorem dX11_tellChange_103 : decode cX11_tellChange 103 = .ok (.if_icmp .ne 7, 3) := by decide +kernel
theorem dX11_tellChange_106 : decode cX11_tellChange 106 = .ok (.iconst 1, 1) := by decide +kernel
theorem dX11_tellChange_107 : decode cX11_tellChange 107 = .ok (.goto 4, 3) := by decide +kernel
theorem dX11_tellChange_110 : decode cX11_tellChange 110 = .ok (.iconst 0, 1) := by decide +kernel
theorem dX11_tellChange_111 : decode cX11_tellChange 111 = .ok (.istore 12, 2) := by decide +kernel
theorem dX11_tellChange_113 : decode cX11_tellChange 113 = .ok (.iload 11, 2) := by decide +kernel
theorem dX11_tellChange_115 : decode cX11_tellChange 115 = .ok (.iconst (-1), 1) := by decide +kernel
theorem dX11_tellChange_116 : decode cX11_tellChange 116 = .ok (.if_icmp .eq 37, 3) := by decide +kernel
theorem dX11_tellChange_119 : decode cX11_tellChange 119 = .ok (.iload 12, 2) := by decide +kernel
theorem dX11_tellChange_121 : decode cX11_tellChange 121 = .ok (.ifCond .eq 32, 3) := by decide +kernel
theorem dX11_tellChange_124 : decode cX11_tellChange 124 = .ok (.aload_n 0, 1) := by decide +kernel
theorem dX11_tellChange_125 : decode cX11_tellChange 125 = .ok (.getfield 47, 3) := by decide +kernel
theorem dX11_tellChange_128 : decode cX11_tellChange 128 = .ok (.iload 9, 2) := by decide +kernel
theorem dX11_tellChange_130 : decode cX11_tellChange 130 = .ok (.aload_n 3, 1) := by decide +kernel
theorem dX11_tellChange_131 : decode cX11_tellChange 131 = .ok (.iload 11, 2) := by decide +kernel
theorem dX11_tellChange_133 : decode cX11_tellChange 133 = .ok (.invokevirtual 396, 3) := by decide +kernel
theorem dX11_tellChange_136 : decode cX11_tellChange 136 = .ok (.ifCond .eq 17, 3) := by decide +kernel
theorem dX11_tellChange_139 : decode cX11_tellChange 139 = .ok (.iconst 1, 1) := by decide +kernel
theorem dX11_tellChange_140 : decode cX11_tellChange 140 = .ok (.istore 8, 2) := by decide +kernel
theorem dX11_tellChange_142 : decode cX11_tellChange 142 = .ok (.aload_n 3, 1) := by decide +kernel
theorem dX11_tellChange_143 : decode cX11_tellChange 143 = .ok (.getfield 190, 3) := by decide +kernel
theorem dX11_tellChange_146 : decode cX11_tellChange 146 = .ok (.iload 11, 2) := by decide +kernel
theorem dX11_tellChange_148 : decode cX11_tellChange 148 = .ok (.isub, 1) := by decide +kernel
theorem dX11_tellChange_149 : decode cX11_tellChange 149 = .ok (.iconst 1, 1) := by decide +kernel
theorem dX11_tellChange_150 : decode cX11_tellChange 150 = .ok (.isub, 1) := by decide +kernel
theorem dX11_tellChange_151 : decode cX11_tellChange 151 = .ok (.istore 7, 2) := by decide +kernel
theorem dX11_tellChange_153 : decode cX11_tellChange 153 = .ok (.iinc 9 1, 3) := by decide +kernel
theorem dX11_tellChange_156 : decode cX11_tellChange 156 = .ok (.goto (-110), 3) := by decide +kernel
theorem dX11_tellChange_159 : decode cX11_tellChange 159 = .ok (.aload_n 0, 1) := by decide +kernel
theorem dX11_tellChange_160 : decode cX11_tellChange 160 = .ok (.iconst 0, 1) := by decide +kernel
theorem dX11_tellChange_161 : decode cX11_tellChange 161 = .ok (.putfield 100, 3) := by decide +kernel
theorem dX11_tellChange_164 : decode cX11_tellChange 164 = .ok (.aload_n 0, 1) := by decide +kernel
theorem dX11_tellChange_165 : decode cX11_tellChange 165 = .ok (.iload 5, 2) := by decide +kernel
theorem dX11_tellChange_167 : decode cX11_tellChange 167 = .ok (.i2l, 1) := by decide +kernel
theorem dX11_tellChange_168 : decode cX11_tellChange 168 = .ok (.invokevirtual 196, 3) := by decide +kernel
theorem dX11_tellChange_171 : decode cX11_tellChange 171 = .ok (.aload_n 0, 1) := by decide +kernel
theorem dX11_tellChange_172 : decode cX11_tellChange 172 = .ok (.iload 6, 2) := by decide +kernel
theorem dX11_tellChange_174 : decode cX11_tellChange 174 = .ok (.i2l, 1) := by decide +kernel
theorem dX11_tellChange_175 : decode cX11_tellChange 175 = .ok (.invokevirtual 196, 3) := by decide +kernel
theorem dX11_tellChange_178 : decode cX11_tellChange 178 = .ok (.aload_n 0, 1) := by decide +kernel
theorem dX11_tellChange_179 : decode cX11_tellChange 179 = .ok (.iload 7, 2) := by decide +kernel
theorem dX11_tellChange_181 : decode cX11_tellChange 181 = .ok (.i2l, 1) := by decide +kernel
theorem dX11_tellChange_182 : decode cX11_tellChange 182 = .ok (.invokevirtual 196, 3) := by decide +kernel
theorem dX11_tellChange_185 : decode cX11_tellChange 185 = .ok (.return_, 1) := by decide +kernel
theorem dX11_changeByText_0 : decode cX11_changeByText 0 = .ok (.iconst 0, 1) := by decide +kernel
theorem dX11_changeByText_1 : decode cX11_changeByText 1 = .ok (.istore_n 1, 1) := by decide +kernel
theorem dX11_changeByText_2 : decode cX11_changeByText 2 = .ok (.iconst 0, 1) := by decide +kernel
theorem dX11_changeByText_3 : decode cX11_changeByText 3 = .ok (.istore_n 2, 1) := by decide +kernel
theorem dX11_changeByText_4 : decode cX11_changeByText 4 = .ok (.iconst 0, 1) := by decide +kernel
theorem dX11_changeByText_5 : decode cX11_changeByText 5 = .ok (.istore_n 3, 1) := by decide +kernel
theorem dX11_changeByText_6 : decode cX11_changeByText 6 = .ok (.iconst 0, 1) := by decide +kernel
theorem dX11_changeByText_7 : decode cX11_changeByText 7 = .ok (.istore 4, 2) := by decide +kernel
theorem dX11_changeByText_9 : decode cX11_changeByText 9 = .ok (.iload 4, 2) := by decide +kernel
theorem dX11_changeByText_11 : decode cX11_changeByText 11 = .ok (.bipush 80, 2) := by decide +kernel
theorem dX11_changeByText_13 : decode cX11_changeByText 13 = .ok (.if_icmp .ge 171, 3) := by decide +kernel
theorem dX11_changeByText_16 : decode cX11_changeByText 16 = .ok (.iload_n 3, 1) := by decide +kernel
theorem dX11_changeByText_17 : decode cX11_changeByText 17 = .ok (.aload_n 0, 1) := by decide +kernel
theorem dX11_changeByText_18 : decode cX11_changeByText 18 = .ok (.getfield 12, 3) := by decide +kernel
theorem dX11_changeByText_21 : decode cX11_changeByText 21 = .ok (.getfield 108, 3) := by decide +kernel
theorem dX11_changeByText_24 : decode cX11_changeByText 24 = .ok (.if_icmp .ge 160, 3) := by decide +kernel
theorem dX11_changeByText_27 : decode cX11_changeByText 27 = .ok (.iload_n 2, 1) := by decide +kernel
theorem dX11_changeByText_28 : decode cX11_changeByText 28 = .ok (.ifCond .ne 156, 3) := by decide +kernel
theorem dX11_changeByText_31 : decode cX11_changeByText 31 = .ok (.aload_n 0, 1) := by decide +kernel
theorem dX11_changeByText_32 : decode cX11_changeByText 32 = .ok (.getfield 12, 3) := by decide +kernel
theorem dX11_changeByText_35 : decode cX11_changeByText 35 = .ok (.iload_n 3, 1) := by decide +kernel
theorem dX11_changeByText_36 : decode cX11_changeByText 36 = .ok (.invokevirtual 400, 3) := by decide +kernel
theorem dX11_changeByText_39 : decode cX11_changeByText 39 = .ok (.invokestatic 401, 3) := by decide +kernel
theorem dX11_changeByText_42 : decode cX11_changeByText 42 = .ok (.istore 5, 2) := by decide +kernel
theorem dX11_changeByText_44 : decode cX11_changeByText 44 = .ok (.aload_n 0, 1) := by decide +kernel
theorem dX11_changeByText_45 : decode cX11_changeByText 45 = .ok (.getfield 12, 3) := by decide +kernel
theorem dX11_changeByText_48 : decode cX11_changeByText 48 = .ok (.iload_n 3, 1) := by decide +kernel
theorem dX11_changeByText_49 : decode cX11_changeByText 49 = .ok (.iconst 1, 1) := by decide +kernel
theorem dX11_changeByText_50 : decode cX11_changeByText 50 = .ok (.iadd, 1) := by decide +kernel
theorem dX11_changeByText_51 : decode cX11_changeByText 51 = .ok (.invokevirtual 400, 3) := by decide +kernel
theorem dX11_changeByText_54 : decode cX11_changeByText 54 = .ok (.bipush 48, 2) := by decide +kernel
theorem dX11_changeByText_56 : decode cX11_changeByText 56 = .ok (.isub, 1) := by decide +kernel
theorem dX11_changeByText_57 : decode cX11_changeByText 57 = .ok (.bipush 10, 2) := by decide +kernel
theorem dX11_changeByText_59 : decode cX11_changeByText 59 = .ok (.imul, 1) := by decide +kernel
theorem dX11_changeByText_60 : decode cX11_changeByText 60 = .ok (.aload_n 0, 1) := by decide +kernel
theorem dX11_changeByText_61 : decode cX11_changeByText 61 = .ok (.getfield 12, 3) := by decide +kernel
theorem dX11_changeByText_64 : decode cX11_changeByText 64 = .ok (.iload_n 3, 1) := by decide +kernel
theorem dX11_changeByText_65 : decode cX11_changeByText 65 = .ok (.iconst 2, 1) := by decide +kernel
theorem dX11_changeByText_66 : decode cX11_changeByText 66 = .ok (.iadd, 1) := by decide +kernel
theorem dX11_changeByText_67 : decode cX11_changeByText 67 = .ok (.invokevirtual 400, 3) := by decide +kernel
theorem dX11_changeByText_70 : decode cX11_changeByText 70 = .ok (.bipush 48, 2) := by decide +kernel
theorem dX11_changeByText_72 : decode cX11_changeByText 72 = .ok (.isub, 1) := by decide +kernel
theorem dX11_changeByText_73 : decode cX11_changeByText 73 = .ok (.iadd, 1) := by decide +kernel
theorem dX11_changeByText_74 : decode cX11_changeByText 74 = .ok (.istore 6, 2) := by decide +kernel
theorem dX11_changeByText_76 : decode cX11_changeByText 76 = .ok (.iload 5, 2) := by decide +kernel
theorem dX11_changeByText_78 : decode cX11_changeByText 78 = .ok (.iconst 2, 1) := by decide +kernel
theorem dX11_changeByText_79 : decode cX11_changeByText 79 = .ok (.if_icmp .ne 7, 3) := by decide +kernel
theorem dX11_changeByText_82 : decode cX11_changeByText 82 = .ok (.iconst 0, 1) := by decide +kernel
theorem dX11_changeByText_83 : decode cX11_changeByText 83 = .ok (.goto 16, 3) := by decide +kernel
theorem dX11_changeByText_86 : decode cX11_changeByText 86 = .ok (.aload_n 0, 1) := by decide +kernel
theorem dX11_changeByText_87 : decode cX11_changeByText 87 = .ok (.getfield 12, 3) := by decide +kernel
theorem dX11_changeByText_90 : decode cX11_changeByText 90 = .ok (.iload_n 3, 1) := by decide +kernel
theorem dX11_changeByText_91 : decode cX11_changeByText 91 = .ok (.iconst 3, 1) := by decide +kernel
theorem dX11_changeByText_92 : decode cX11_changeByText 92 = .ok (.iadd, 1) := by decide +kernel
theorem dX11_changeByText_93 : decode cX11_changeByText 93 = .ok (.invokevirtual 400, 3) := by decide +kernel
theorem dX11_changeByText_96 : decode cX11_changeByText 96 = .ok (.bipush 97, 2) := by decide +kernel
theorem dX11_changeByText_98 : decode cX11_changeByText 98 = .ok (.isub, 1) := by decide +kernel
theorem dX11_changeByText_99 : decode cX11_changeByText 99 = .ok (.istore 7, 2) := by decide +kernel
theorem dX11_changeByText_101 : decode cX11_changeByText 101 = .ok (.iload_n 3, 1) := by decide +kernel
theorem dX11_changeByText_102 : decode cX11_changeByText 102 = .ok (.iload 5, 2) := by decide +kernel
theorem dX11_changeByText_104 : decode cX11_changeByText 104 = .ok (.iconst 2, 1) := by decide +kernel
theorem dX11_changeByText_105 : decode cX11_changeByText 105 = .ok (.if_icmp .ne 7, 3) := by decide +kernel
theorem dX11_changeByText_108 : decode cX11_changeByText 108 = .ok (.iconst 3, 1) := by decide +kernel
theorem dX11_changeByText_109 : decode cX11_changeByText 109 = .ok (.goto 4, 3) := by decide +kernel
theorem dX11_changeByText_112 : decode cX11_changeByText 112 = .ok (.iconst 4, 1) := by decide +kernel
theorem dX11_changeByText_113 : decode cX11_changeByText 113 = .ok (.iadd, 1) := by decide +kernel
theorem dX11_changeByText_114 : decode cX11_changeByText 114 = .ok (.istore_n 3, 1) := by decide +kernel
theorem dX11_changeByText_115 : decode cX11_changeByText 115 = .ok (.aload_n 0, 1) := by decide +kernel
theorem dX11_changeByText_116 : decode cX11_changeByText 116 = .ok (.getfield 33, 3) := by decide +kernel
theorem dX11_changeByText_119 : decode cX11_changeByText 119 = .ok (.getfield 141, 3) := by decide +kernel
theorem dX11_changeByText_122 : decode cX11_changeByText 122 = .ok (.iload 5, 2) := by decide +kernel
theorem dX11_changeByText_124 : decode cX11_changeByText 124 = .ok (.iload 6, 2) := by decide +kernel
theorem dX11_changeByText_126 : decode cX11_changeByText 126 = .ok (.iload 7, 2) := by decide +kernel
theorem dX11_changeByText_128 : decode cX11_changeByText 128 = .ok (.invokevirtual 387, 3) := by decide +kernel
theorem dX11_changeByText_131 : decode cX11_changeByText 131 = .ok (.ifCond .ge 7, 3) := by decide +kernel
theorem dX11_changeByText_134 : decode cX11_changeByText 134 = .ok (.iconst 1, 1) := by decide +kernel
theorem dX11_changeByText_135 : decode cX11_changeByText 135 = .ok (.goto 4, 3) := by decide +kernel
theorem dX11_changeByText_138 : decode cX11_changeByText 138 = .ok (.iconst 0, 1) := by decide +kernel
theorem dX11_changeByText_139 : decode cX11_changeByText 139 = .ok (.istore_n 2, 1) := by decide +kernel
theorem dX11_changeByText_140 : decode cX11_changeByText 140 = .ok (.iload_n 2, 1) := by decide +kernel
theorem dX11_changeByText_141 : decode cX11_changeByText 141 = .ok (.ifCond .ne 37, 3) := by decide +kernel
theorem dX11_changeByText_144 : decode cX11_changeByText 144 = .ok (.iload_n 1, 1) := by decide +kernel
theorem dX11_changeByText_145 : decode cX11_changeByText 145 = .ok (.ifCond .ne 14, 3) := by decide +kernel
theorem dX11_changeByText_148 : decode cX11_changeByText 148 = .ok (.aload_n 0, 1) := by decide +kernel
theorem dX11_changeByText_149 : decode cX11_changeByText 149 = .ok (.getfield 88, 3) := by decide +kernel
theorem dX11_changeByText_152 : decode cX11_changeByText 152 = .ok (.aload_n 0, 1) := by decide +kernel
theorem dX11_changeByText_153 : decode cX11_changeByText 153 = .ok (.getfield 33, 3) := by decide +kernel
theorem dX11_changeByText_156 : decode cX11_changeByText 156 = .ok (.invokevirtual 121, 3) := by decide +kernel
theorem dX11_changeByText_159 : decode cX11_changeByText 159 = .ok (.aload_n 0, 1) := by decide +kernel
theorem dX11_changeByText_160 : decode cX11_changeByText 160 = .ok (.getfield 33, 3) := by decide +kernel
theorem dX11_changeByText_163 : decode cX11_changeByText 163 = .ok (.getfield 141, 3) := by decide +kernel
theorem dX11_changeByText_166 : decode cX11_changeByText 166 = .ok (.iload 5, 2) := by decide +kernel
theorem dX11_changeByText_168 : decode cX11_changeByText 168 = .ok (.iload 6, 2) := by decide +kernel
theorem dX11_changeByText_170 : decode cX11_changeByText 170 = .ok (.iload 7, 2) := by decide +kernel
theorem dX11_changeByText_172 : decode cX11_changeByText 172 = .ok (.invokevirtual 364, 3) := by decide +kernel
theorem dX11_changeByText_175 : decode cX11_changeByText 175 = .ok (.iinc 1 1, 3) := by decide +kernel
theorem dX11_changeByText_178 : decode cX11_changeByText 178 = .ok (.iinc 4 1, 3) := by decide +kernel
theorem dX11_changeByText_181 : decode cX11_changeByText 181 = .ok (.goto (-172), 3) := by decide +kernel
theorem dX11_changeByText_184 : decode cX11_changeByText 184 = .ok (.aload_n 0, 1) := by decide +kernel
theorem dX11_changeByText_185 : decode cX11_changeByText 185 = .ok (.invokevirtual 147, 3) := by decide +kernel
theorem dX11_changeByText_188 : decode cX11_changeByText 188 = .ok (.aload_n 0, 1) := by decide +kernel
theorem dX11_changeByText_189 : decode cX11_changeByText 189 = .ok (.iconst 0, 1) := by decide +kernel
theorem dX11_changeByText_190 : decode cX11_changeByText 190 = .ok (.putfield 100, 3) := by decide +kernel
theorem dX11_changeByText_193 : decode cX11_changeByText 193 = .ok (.aload_n 0, 1) := by decide +kernel
theorem dX11_changeByText_194 : decode cX11_changeByText 194 = .ok (.iload_n 2, 1) := by decide +kernel
theorem dX11_changeByText_195 : decode cX11_changeByText 195 = .ok (.ifCond .eq 7, 3) := by decide +kernel
theorem dX11_changeByText_198 : decode cX11_changeByText 198 = .ok (.lconst 1, 1) := by decide +kernel
theorem dX11_changeByText_199 : decode cX11_changeByText 199 = .ok (.goto 4, 3) := by decide +kernel
theorem dX11_changeByText_202 : decode cX11_changeByText 202 = .ok (.lconst 0, 1) := by decide +kernel
theorem dX11_changeByText_203 : decode cX11_changeByText 203 = .ok (.invokevirtual 196, 3) := by decide +kernel
theorem dX11_changeByText_206 : decode cX11_changeByText 206 = .ok (.aload_n 0, 1) := by decide +kernel
theorem dX11_changeByText_207 : decode cX11_changeByText 207 = .ok (.aload_n 0, 1) := by decide +kernel
theorem dX11_changeByText_208 : decode cX11_changeByText 208 = .ok (.getfield 47, 3) := by decide +kernel
theorem dX11_changeByText_211 : decode cX11_changeByText 211 = .ok (.getfield 190, 3) := by decide +kernel
theorem dX11_changeByText_214 : decode cX11_changeByText 214 = .ok (.i2l, 1) := by decide +kernel
theorem dX11_changeByText_215 : decode cX11_changeByText 215 = .ok (.invokevirtual 196, 3) := by decide +kernel
theorem dX11_changeByText_218 : decode cX11_changeByText 218 = .ok (.iload_n 1, 1) := by decide +kernel
theorem dX11_changeByText_219 : decode cX11_changeByText 219 = .ok (.ireturn, 1) := by decide +kernel
theorem dX11_isMode_0 : decode cX11_isMode 0 = .ok (.iload_n 0, 1) := by decide +kernel
theorem dX11_isMode_1 : decode cX11_isMode 1 = .ok (.ifCond .lt 12, 3) := by decide +kernel
theorem dX11_isMode_4 : decode cX11_isMode 4 = .ok (.iload_n 0, 1) := by decide +kernel
theorem dX11_isMode_5 : decode cX11_isMode 5 = .ok (.iconst 4, 1) := by decide +kernel
theorem dX11_isMode_6 : decode cX11_isMode 6 = .ok (.if_icmp .ge 7, 3) := by decide +kernel
theorem dX11_isMode_9 : decode cX11_isMode 9 = .ok (.iconst 1, 1) := by decide +kernel
theorem dX11_isMode_10 : decode cX11_isMode 10 = .ok (.goto 4, 3) := by decide +kernel
theorem dX11_isMode_13 : decode cX11_isMode 13 = .ok (.iconst 0, 1) := by decide +kernel
theorem dX11_isMode_14 : decode cX11_isMode 14 = .ok (.ireturn, 1) := by decide +kernel
theorem dX11_narrowed_0 : decode cX11_narrowed 0 = .ok (.iload_n 0, 1) := by decide +kernel
theorem dX11_narrowed_1 : decode cX11_narrowed 1 = .ok (.ifCond .ne 6, 3) := by decide +kernel
theorem dX11_narrowed_4 : decode cX11_narrowed 4 = .ok (.iload_n 1, 1) := by decide +kernel
theorem dX11_narrowed_5 : decode cX11_narrowed 5 = .ok (.i2b, 1) := by decide +kernel
theorem dX11_narrowed_6 : decode cX11_narrowed 6 = .ok (.ireturn, 1) := by decide +kernel
theorem dX11_narrowed_7 : decode cX11_narrowed 7 = .ok (.iload_n 0, 1) := by decide +kernel
theorem dX11_narrowed_8 : decode cX11_narrowed 8 = .ok (.iconst 1, 1) := by decide +kernel
theorem dX11_narrowed_9 : decode cX11_narrowed 9 = .ok (.if_icmp .ne 8, 3) := by decide +kernel
theorem dX11_narrowed_12 : decode cX11_narrowed 12 = .ok (.iload_n 1, 1) := by decide +kernel
theorem dX11_narrowed_13 : decode cX11_narrowed 13 = .ok (.i2s, 1) := by decide +kernel
theorem dX11_narrowed_14 : decode cX11_narrowed 14 = .ok (.goto 4, 3) := by decide +kernel
theorem dX11_narrowed_17 : decode cX11_narrowed 17 = .ok (.iload_n 1, 1) := by decide +kernel
theorem dX11_narrowed_18 : decode cX11_narrowed 18 = .ok (.ireturn, 1) := by decide +kernel
theorem dX11_firstOf_0 : decode cX11_firstOf 0 = .ok (.iconst 0, 1) := by decide +kernel
theorem dX11_firstOf_1 : decode cX11_firstOf 1 = .ok (.istore_n 1, 1) := by decide +kernel
theorem dX11_firstOf_2 : decode cX11_firstOf 2 = .ok (.iload_n 1, 1) := by decide +kernel
theorem dX11_firstOf_3 : decode cX11_firstOf 3 = .ok (.bipush 8, 2) := by decide +kernel
theorem dX11_firstOf_5 : decode cX11_firstOf 5 = .ok (.if_icmp .ge 19, 3) := by decide +kernel
theorem dX11_firstOf_8 : decode cX11_firstOf 8 = .ok (.iload_n 0, 1) := by decide +kernel
theorem dX11_firstOf_9 : decode cX11_firstOf 9 = .ok (.iload_n 1, 1) := by decide +kernel
theorem dX11_firstOf_10 : decode cX11_firstOf 10 = .ok (.ishr, 1) := by decide +kernel
theorem dX11_firstOf_11 : decode cX11_firstOf 11 = .ok (.iconst 1, 1) := by decide +kernel
theorem dX11_firstOf_12 : decode cX11_firstOf 12 = .ok (.iand, 1) := by decide +kernel
theorem dX11_firstOf_13 : decode cX11_firstOf 13 = .ok (.ifCond .eq 5, 3) := by decide +kernel
theorem dX11_firstOf_16 : decode cX11_firstOf 16 = .ok (.iload_n 1, 1) := by decide +kernel
theorem dX11_firstOf_17 : decode cX11_firstOf 17 = .ok (.ireturn, 1) := by decide +kernel
theorem dX11_firstOf_18 : decode cX11_firstOf 18 = .ok (.iinc 1 1, 3) := by decide +kernel
theorem dX11_firstOf_21 : decode cX11_firstOf 21 = .ok (.goto (-19), 3) := by decide +kernel
theorem dX11_firstOf_24 : decode cX11_firstOf 24 = .ok (.iconst (-1), 1) := by decide +kernel
theorem dX11_firstOf_25 : decode cX11_firstOf 25 = .ok (.ireturn, 1) := by decide +kernel
theorem dX11_nextOf_0 : decode cX11_nextOf 0 = .ok (.iload_n 0, 1) := by decide +kernel
theorem dX11_nextOf_1 : decode cX11_nextOf 1 = .ok (.ldc_w 404, 3) := by decide +kernel
theorem dX11_nextOf_4 : decode cX11_nextOf 4 = .ok (.imul, 1) := by decide +kernel
theorem dX11_nextOf_5 : decode cX11_nextOf 5 = .ok (.sipush 12345, 3) := by decide +kernel
theorem dX11_nextOf_8 : decode cX11_nextOf 8 = .ok (.iadd, 1) := by decide +kernel
theorem dX11_nextOf_9 : decode cX11_nextOf 9 = .ok (.ireturn, 1) := by decide +kernel
theorem dX11_drawn_0 : decode cX11_drawn 0 = .ok (.iload_n 1, 1) := by decide +kernel
theorem dX11_drawn_1 : decode cX11_drawn 1 = .ok (.ifCond .le 12, 3) := by decide +kernel
theorem dX11_drawn_4 : decode cX11_drawn 4 = .ok (.iload_n 0, 1) := by decide +kernel
theorem dX11_drawn_5 : decode cX11_drawn 5 = .ok (.bipush 16, 2) := by decide +kernel
theorem dX11_drawn_7 : decode cX11_drawn 7 = .ok (.iushr, 1) := by decide +kernel
theorem dX11_drawn_8 : decode cX11_drawn 8 = .ok (.iload_n 1, 1) := by decide +kernel
theorem dX11_drawn_9 : decode cX11_drawn 9 = .ok (.irem, 1) := by decide +kernel
theorem dX11_drawn_10 : decode cX11_drawn 10 = .ok (.goto 4, 3) := by decide +kernel
theorem dX11_drawn_13 : decode cX11_drawn 13 = .ok (.iconst 0, 1) := by decide +kernel
theorem dX11_drawn_14 : decode cX11_drawn 14 = .ok (.ireturn, 1) := by decide +kernel
theorem dX12_init_0 : decode cX12_init 0 = .ok (.aload_n 0, 1) := by decide +kernel
theorem dX12_init_1 : decode cX12_init 1 = .ok (.invokespecial 3, 3) := by decide +kernel
theorem dX12_init_4 : decode cX12_init 4 = .ok (.aload_n 0, 1) := by decide +kernel
theorem dX12_init_5 : decode cX12_init 5 = .ok (.bipush 106, 2) := by decide +kernel
theorem dX12_init_7 : decode cX12_init 7 = .ok (.newarray .int, 2) := by decide +kernel
theorem dX12_init_9 : decode cX12_init 9 = .ok (.putfield 9, 3) := by decide +kernel
theorem dX12_init_12 : decode cX12_init 12 = .ok (.aload_n 0, 1) := by decide +kernel
theorem dX12_init_13 : decode cX12_init 13 = .ok (.bipush 80, 2) := by decide +kernel
theorem dX12_init_15 : decode cX12_init 15 = .ok (.newarray .byte, 2) := by decide +kernel
theorem dX12_init_17 : decode cX12_init 17 = .ok (.putfield 13, 3) := by decide +kernel
theorem dX12_init_20 : decode cX12_init 20 = .ok (.aload_n 0, 1) := by decide +kernel
theorem dX12_init_21 : decode cX12_init 21 = .ok (.bipush 64, 2) := by decide +kernel
theorem dX12_init_23 : decode cX12_init 23 = .ok (.newarray .long, 2) := by decide +kernel
theorem dX12_init_25 : decode cX12_init 25 = .ok (.putfield 17, 3) := by decide +kernel
theorem dX12_init_28 : decode cX12_init 28 = .ok (.aload_n 0, 1) := by decide +kernel
theorem dX12_init_29 : decode cX12_init 29 = .ok (.bipush 80, 2) := by decide +kernel
theorem dX12_init_31 : decode cX12_init 31 = .ok (.newarray .int, 2) := by decide +kernel
theorem dX12_init_33 : decode cX12_init 33 = .ok (.putfield 21, 3) := by decide +kernel
theorem dX12_init_36 : decode cX12_init 36 = .ok (.aload_n 0, 1) := by decide +kernel
theorem dX12_init_37 : decode cX12_init 37 = .ok (.bipush 8, 2) := by decide +kernel
theorem dX12_init_39 : decode cX12_init 39 = .ok (.newarray .int, 2) := by decide +kernel
theorem dX12_init_41 : decode cX12_init 41 = .ok (.putfield 24, 3) := by decide +kernel
theorem dX12_init_44 : decode cX12_init 44 = .ok (.aload_n 0, 1) := by decide +kernel
theorem dX12_init_45 : decode cX12_init 45 = .ok (.bipush 8, 2) := by decide +kernel
theorem dX12_init_47 : decode cX12_init 47 = .ok (.newarray .int, 2) := by decide +kernel
theorem dX12_init_49 : decode cX12_init 49 = .ok (.putfield 27, 3) := by decide +kernel
theorem dX12_init_52 : decode cX12_init 52 = .ok (.aload_n 0, 1) := by decide +kernel
theorem dX12_init_53 : decode cX12_init 53 = .ok (.bipush 8, 2) := by decide +kernel
theorem dX12_init_55 : decode cX12_init 55 = .ok (.newarray .int, 2) := by decide +kernel
theorem dX12_init_57 : decode cX12_init 57 = .ok (.putfield 30, 3) := by decide +kernel
theorem dX12_init_60 : decode cX12_init 60 = .ok (.aload_n 0, 1) := by decide +kernel
theorem dX12_init_61 : decode cX12_init 61 = .ok (.bipush 8, 2) := by decide +kernel
theorem dX12_init_63 : decode cX12_init 63 = .ok (.newarray .int, 2) := by decide +kernel
theorem dX12_init_65 : decode cX12_init 65 = .ok (.putfield 33, 3) := by decide +kernel
theorem dX12_init_68 : decode cX12_init 68 = .ok (.aload_n 0, 1) := by decide +kernel
theorem dX12_init_69 : decode cX12_init 69 = .ok (.bipush 8, 2) := by decide +kernel
theorem dX12_init_71 : decode cX12_init 71 = .ok (.newarray .boolean, 2) := by decide +kernel
theorem dX12_init_73 : decode cX12_init 73 = .ok (.putfield 36, 3) := by decide +kernel
theorem dX12_init_76 : decode cX12_init 76 = .ok (.aload_n 0, 1) := by decide +kernel
theorem dX12_init_77 : decode cX12_init 77 = .ok (.bipush 8, 2) := by decide +kernel
theorem dX12_init_79 : decode cX12_init 79 = .ok (.newarray .int, 2) := by decide +kernel
theorem dX12_init_81 : decode cX12_init 81 = .ok (.putfield 40, 3) := by decide +kernel
theorem dX12_init_84 : decode cX12_init 84 = .ok (.aload_n 0, 1) := by decide +kernel
theorem dX12_init_85 : decode cX12_init 85 = .ok (.bipush 8, 2) := by decide +kernel
theorem dX12_init_87 : decode cX12_init 87 = .ok (.newarray .int, 2) := by decide +kernel
theorem dX12_init_89 : decode cX12_init 89 = .ok (.putfield 43, 3) := by decide +kernel
theorem dX12_init_92 : decode cX12_init 92 = .ok (.aload_n 0, 1) := by decide +kernel
theorem dX12_init_93 : decode cX12_init 93 = .ok (.iconst 4, 1) := by decide +kernel
theorem dX12_init_94 : decode cX12_init 94 = .ok (.newarray .int, 2) := by decide +kernel
theorem dX12_init_96 : decode cX12_init 96 = .ok (.putfield 46, 3) := by decide +kernel
theorem dX12_init_99 : decode cX12_init 99 = .ok (.aload_n 0, 1) := by decide +kernel
theorem dX12_init_100 : decode cX12_init 100 = .ok (.bipush 40, 2) := by decide +kernel
theorem dX12_init_102 : decode cX12_init 102 = .ok (.newarray .int, 2) := by decide +kernel
theorem dX12_init_104 : decode cX12_init 104 = .ok (.putfield 49, 3) := by decide +kernel
theorem dX12_init_107 : decode cX12_init 107 = .ok (.aload_n 0, 1) := by decide +kernel
theorem dX12_init_108 : decode cX12_init 108 = .ok (.bipush 40, 2) := by decide +kernel
theorem dX12_init_110 : decode cX12_init 110 = .ok (.newarray .int, 2) := by decide +kernel
theorem dX12_init_112 : decode cX12_init 112 = .ok (.putfield 52, 3) := by decide +kernel
theorem dX12_init_115 : decode cX12_init 115 = .ok (.aload_n 0, 1) := by decide +kernel
theorem dX12_init_116 : decode cX12_init 116 = .ok (.bipush 24, 2) := by decide +kernel
theorem dX12_init_118 : decode cX12_init 118 = .ok (.newarray .int, 2) := by decide +kernel
theorem dX12_init_120 : decode cX12_init 120 = .ok (.putfield 55, 3) := by decide +kernel
theorem dX12_init_123 : decode cX12_init 123 = .ok (.aload_n 0, 1) := by decide +kernel
theorem dX12_init_124 : decode cX12_init 124 = .ok (.iconst 5, 1) := by decide +kernel
theorem dX12_init_125 : decode cX12_init 125 = .ok (.newarray .int, 2) := by decide +kernel
theorem dX12_init_127 : decode cX12_init 127 = .ok (.putfield 58, 3) := by decide +kernel
theorem dX12_init_130 : decode cX12_init 130 = .ok (.aload_n 0, 1) := by decide +kernel
theorem dX12_init_131 : decode cX12_init 131 = .ok (.sipush 300, 3) := by decide +kernel
theorem dX12_init_134 : decode cX12_init 134 = .ok (.newarray .int, 2) := by decide +kernel
theorem dX12_init_136 : decode cX12_init 136 = .ok (.putfield 61, 3) := by decide +kernel
theorem dX12_init_139 : decode cX12_init 139 = .ok (.aload_n 0, 1) := by decide +kernel
theorem dX12_init_140 : decode cX12_init 140 = .ok (.ldc 64, 2) := by decide +kernel
theorem dX12_init_142 : decode cX12_init 142 = .ok (.newarray .int, 2) := by decide +kernel
theorem dX12_init_144 : decode cX12_init 144 = .ok (.putfield 65, 3) := by decide +kernel
theorem dX12_init_147 : decode cX12_init 147 = .ok (.aload_n 0, 1) := by decide +kernel
theorem dX12_init_148 : decode cX12_init 148 = .ok (.ldc 64, 2) := by decide +kernel
theorem dX12_init_150 : decode cX12_init 150 = .ok (.newarray .boolean, 2) := by decide +kernel
theorem dX12_init_152 : decode cX12_init 152 = .ok (.putfield 68, 3) := by decide +kernel
theorem dX12_init_155 : decode cX12_init 155 = .ok (.aload_n 0, 1) := by decide +kernel
theorem dX12_init_156 : decode cX12_init 156 = .ok (.bipush 24, 2) := by decide +kernel
theorem dX12_init_158 : decode cX12_init 158 = .ok (.newarray .int, 2) := by decide +kernel
theorem dX12_init_160 : decode cX12_init 160 = .ok (.putfield 71, 3) := by decide +kernel
theorem dX12_init_163 : decode cX12_init 163 = .ok (.aload_n 0, 1) := by decide +kernel
theorem dX12_init_164 : decode cX12_init 164 = .ok (.sipush 212, 3) := by decide +kernel
theorem dX12_init_167 : decode cX12_init 167 = .ok (.newarray .int, 2) := by decide +kernel
theorem dX12_init_169 : decode cX12_init 169 = .ok (.putfield 74, 3) := by decide +kernel
theorem dX12_init_172 : decode cX12_init 172 = .ok (.aload_n 0, 1) := by decide +kernel
theorem dX12_init_173 : decode cX12_init 173 = .ok (.iconst 2, 1) := by decide +kernel
theorem dX12_init_174 : decode cX12_init 174 = .ok (.newarray .boolean, 2) := by decide +kernel
theorem dX12_init_176 : decode cX12_init 176 = .ok (.putfield 77, 3) := by decide +kernel
theorem dX12_init_179 : decode cX12_init 179 = .ok (.aload_n 0, 1) := by decide +kernel
theorem dX12_init_180 : decode cX12_init 180 = .ok (.sipush 300, 3) := by decide +kernel
theorem dX12_init_183 : decode cX12_init 183 = .ok (.newarray .int, 2) := by decide +kernel
theorem dX12_init_185 : decode cX12_init 185 = .ok (.putfield 80, 3) := by decide +kernel
theorem dX12_init_188 : decode cX12_init 188 = .ok (.aload_n 0, 1) := by decide +kernel
theorem dX12_init_189 : decode cX12_init 189 = .ok (.sipush 1024, 3) := by decide +kernel
theorem dX12_init_192 : decode cX12_init 192 = .ok (.newarray .int, 2) := by decide +kernel
theorem dX12_init_194 : decode cX12_init 194 = .ok (.putfield 83, 3) := by decide +kernel
theorem dX12_init_197 : decode cX12_init 197 = .ok (.aload_n 0, 1) := by decide +kernel
theorem dX12_init_198 : decode cX12_init 198 = .ok (.sipush 1024, 3) := by decide +kernel
theorem dX12_init_201 : decode cX12_init 201 = .ok (.newarray .int, 2) := by decide +kernel
theorem dX12_init_203 : decode cX12_init 203 = .ok (.putfield 86, 3) := by decide +kernel
theorem dX12_init_206 : decode cX12_init 206 = .ok (.aload_n 0, 1) := by decide +kernel
theorem dX12_init_207 : decode cX12_init 207 = .ok (.sipush 1024, 3) := by decide +kernel
theorem dX12_init_210 : decode cX12_init 210 = .ok (.newarray .int, 2) := by decide +kernel
theorem dX12_init_212 : decode cX12_init 212 = .ok (.putfield 89, 3) := by decide +kernel
theorem dX12_init_215 : decode cX12_init 215 = .ok (.aload_n 0, 1) := by decide +kernel
theorem dX12_init_216 : decode cX12_init 216 = .ok (.sipush 1024, 3) := by decide +kernel
theorem dX12_init_219 : decode cX12_init 219 = .ok (.newarray .boolean, 2) := by decide +kernel
theorem dX12_init_221 : decode cX12_init 221 = .ok (.putfield 92, 3) := by decide +kernel
theorem dX12_init_224 : decode cX12_init 224 = .ok (.aload_n 0, 1) := by decide +kernel
theorem dX12_init_225 : decode cX12_init 225 = .ok (.sipush 1024, 3) := by decide +kernel
theorem dX12_init_228 : decode cX12_init 228 = .ok (.newarray .int, 2) := by decide +kernel
theorem dX12_init_230 : decode cX12_init 230 = .ok (.putfield 95, 3) := by decide +kernel
theorem dX12_init_233 : decode cX12_init 233 = .ok (.aload_n 0, 1) := by decide +kernel
theorem dX12_init_234 : decode cX12_init 234 = .ok (.bipush 25, 2) := by decide +kernel
theorem dX12_init_236 : decode cX12_init 236 = .ok (.newarray .int, 2) := by decide +kernel
theorem dX12_init_238 : decode cX12_init 238 = .ok (.putfield 98, 3) := by decide +kernel
theorem dX12_init_241 : decode cX12_init 241 = .ok (.aload_n 0, 1) := by decide +kernel
theorem dX12_init_242 : decode cX12_init 242 = .ok (.bipush 25, 2) := by decide +kernel
theorem dX12_init_244 : decode cX12_init 244 = .ok (.newarray .int, 2) := by decide +kernel
theorem dX12_init_246 : decode cX12_init 246 = .ok (.putfield 101, 3) := by decide +kernel
theorem dX12_init_249 : decode cX12_init 249 = .ok (.aload_n 0, 1) := by decide +kernel
theorem dX12_init_250 : decode cX12_init 250 = .ok (.bipush 25, 2) := by decide +kernel
theorem dX12_init_252 : decode cX12_init 252 = .ok (.newarray .int, 2) := by decide +kernel
theorem dX12_init_254 : decode cX12_init 254 = .ok (.putfield 104, 3) := by decide +kernel
theorem dX12_init_257 : decode cX12_init 257 = .ok (.aload_n 0, 1) := by decide +kernel
theorem dX12_init_258 : decode cX12_init 258 = .ok (.bipush 25, 2) := by decide +kernel
theorem dX12_init_260 : decode cX12_init 260 = .ok (.newarray .int, 2) := by decide +kernel
theorem dX12_init_262 : decode cX12_init 262 = .ok (.putfield 107, 3) := by decide +kernel
theorem dX12_init_265 : decode cX12_init 265 = .ok (.aload_n 0, 1) := by decide +kernel
theorem dX12_init_266 : decode cX12_init 266 = .ok (.sipush 1060, 3) := by decide +kernel
theorem dX12_init_269 : decode cX12_init 269 = .ok (.newarray .int, 2) := by decide +kernel
theorem dX12_init_271 : decode cX12_init 271 = .ok (.putfield 110, 3) := by decide +kernel
theorem dX12_init_274 : decode cX12_init 274 = .ok (.aload_n 0, 1) := by decide +kernel
theorem dX12_init_275 : decode cX12_init 275 = .ok (.bipush 106, 2) := by decide +kernel
theorem dX12_init_277 : decode cX12_init 277 = .ok (.newarray .int, 2) := by decide +kernel
theorem dX12_init_279 : decode cX12_init 279 = .ok (.putfield 113, 3) := by decide +kernel
theorem dX12_init_282 : decode cX12_init 282 = .ok (.aload_n 0, 1) := by decide +kernel
theorem dX12_init_283 : decode cX12_init 283 = .ok (.sipush 240, 3) := by decide +kernel
theorem dX12_init_286 : decode cX12_init 286 = .ok (.newarray .int, 2) := by decide +kernel
theorem dX12_init_288 : decode cX12_init 288 = .ok (.putfield 116, 3) := by decide +kernel
theorem dX12_init_291 : decode cX12_init 291 = .ok (.aload_n 0, 1) := by decide +kernel
theorem dX12_init_292 : decode cX12_init 292 = .ok (.aload_n 0, 1) := by decide +kernel
theorem dX12_init_293 : decode cX12_init 293 = .ok (.getfield 9, 3) := by decide +kernel
theorem dX12_init_296 : decode cX12_init 296 = .ok (.invokevirtual 119, 3) := by decide +kernel
theorem dX12_init_299 : decode cX12_init 299 = .ok (.return_, 1) := by decide +kernel
theorem dX12_in_0 : decode cX12_in 0 = .ok (.iload_n 0, 1) := by decide +kernel
theorem dX12_in_1 : decode cX12_in 1 = .ok (.iload_n 1, 1) := by decide +kernel
theorem dX12_in_2 : decode cX12_in 2 = .ok (.if_icmp .lt 12, 3) := by decide +kernel
theorem dX12_in_5 : decode cX12_in 5 = .ok (.iload_n 0, 1) := by decide +kernel
theorem dX12_in_6 : decode cX12_in 6 = .ok (.iload_n 2, 1) := by decide +kernel
theorem dX12_in_7 : decode cX12_in 7 = .ok (.if_icmp .gt 7, 3) := by decide +kernel
theorem dX12_in_10 : decode cX12_in 10 = .ok (.iconst 1, 1) := by decide +kernel
theorem dX12_in_11 : decode cX12_in 11 = .ok (.goto 4, 3) := by decide +kernel
theorem dX12_in_14 : decode cX12_in 14 = .ok (.iconst 0, 1) := by decide +kernel
theorem dX12_in_15 : decode cX12_in 15 = .ok (.ireturn, 1) := by decide +kernel
theorem dX12_lost_0 : decode cX12_lost 0 = .ok (.aload_n 0, 1) := by decide +kernel
theorem dX12_lost_1 : decode cX12_lost 1 = .ok (.iconst 1, 1) := by decide +kernel
theorem dX12_lost_2 : decode cX12_lost 2 = .ok (.putfield 123, 3) := by decide +kernel
theorem dX12_lost_5 : decode cX12_lost 5 = .ok (.iconst 0, 1) := by decide +kernel
theorem dX12_lost_6 : decode cX12_lost 6 = .ok (.ireturn, 1) := by decide +kernel
theorem dX12_tell_0 : decode cX12_tell 0 = .ok (.aload_n 0, 1) := by decide +kernel
theorem dX12_tell_1 : decode cX12_tell 1 = .ok (.getfield 17, 3) := by decide +kernel
theorem dX12_tell_4 : decode cX12_tell 4 = .ok (.aload_n 0, 1) := by decide +kernel
theorem dX12_tell_5 : decode cX12_tell 5 = .ok (.getfield 127, 3) := by decide +kernel
theorem dX12_tell_8 : decode cX12_tell 8 = .ok (.lload_n 1, 1) := by decide +kernel
theorem dX12_tell_9 : decode cX12_tell 9 = .ok (.lastore, 1) := by decide +kernel
theorem dX12_tell_10 : decode cX12_tell 10 = .ok (.aload_n 0, 1) := by decide +kernel
theorem dX12_tell_11 : decode cX12_tell 11 = .ok (.dup, 1) := by decide +kernel
theorem dX12_tell_12 : decode cX12_tell 12 = .ok (.getfield 127, 3) := by decide +kernel
theorem dX12_tell_15 : decode cX12_tell 15 = .ok (.iconst 1, 1) := by decide +kernel
theorem dX12_tell_16 : decode cX12_tell 16 = .ok (.iadd, 1) := by decide +kernel
theorem dX12_tell_17 : decode cX12_tell 17 = .ok (.putfield 127, 3) := by decide +kernel
theorem dX12_tell_20 : decode cX12_tell 20 = .ok (.return_, 1) := by decide +kernel
theorem dX12_sign_0 : decode cX12_sign 0 = .ok (.aload_n 0, 1) := by decide +kernel
theorem dX12_sign_1 : decode cX12_sign 1 = .ok (.iconst 0, 1) := by decide +kernel
theorem dX12_sign_2 : decode cX12_sign 2 = .ok (.putfield 123, 3) := by decide +kernel
theorem dX12_sign_5 : decode cX12_sign 5 = .ok (.aload_n 0, 1) := by decide +kernel
theorem dX12_sign_6 : decode cX12_sign 6 = .ok (.getfield 130, 3) := by decide +kernel
theorem dX12_sign_9 : decode cX12_sign 9 = .ok (.iconst 4, 1) := by decide +kernel
theorem dX12_sign_10 : decode cX12_sign 10 = .ok (.iadd, 1) := by decide +kernel
theorem dX12_sign_11 : decode cX12_sign 11 = .ok (.bipush 80, 2) := by decide +kernel
theorem dX12_sign_13 : decode cX12_sign 13 = .ok (.if_icmp .le 5, 3) := by decide +kernel
theorem dX12_sign_16 : decode cX12_sign 16 = .ok (.iconst (-1), 1) := by decide +kernel
theorem dX12_sign_17 : decode cX12_sign 17 = .ok (.ireturn, 1) := by decide +kernel
theorem dX12_sign_18 : decode cX12_sign 18 = .ok (.iconst 3, 1) := by decide +kernel
theorem dX12_sign_19 : decode cX12_sign 19 = .ok (.istore_n 2, 1) := by decide +kernel
theorem dX12_sign_20 : decode cX12_sign 20 = .ok (.iload_n 2, 1) := by decide +kernel
theorem dX12_sign_21 : decode cX12_sign 21 = .ok (.ifCond .lt 32, 3) := by decide +kernel
theorem dX12_sign_24 : decode cX12_sign 24 = .ok (.aload_n 0, 1) := by decide +kernel
theorem dX12_sign_25 : decode cX12_sign 25 = .ok (.getfield 13, 3) := by decide +kernel
theorem dX12_sign_28 : decode cX12_sign 28 = .ok (.aload_n 0, 1) := by decide +kernel
theorem dX12_sign_29 : decode cX12_sign 29 = .ok (.dup, 1) := by decide +kernel
theorem dX12_sign_30 : decode cX12_sign 30 = .ok (.getfield 130, 3) := by decide +kernel
theorem dX12_sign_33 : decode cX12_sign 33 = .ok (.dup_x1, 1) := by decide +kernel
theorem dX12_sign_34 : decode cX12_sign 34 = .ok (.iconst 1, 1) := by decide +kernel
theorem dX12_sign_35 : decode cX12_sign 35 = .ok (.iadd, 1) := by decide +kernel
theorem dX12_sign_36 : decode cX12_sign 36 = .ok (.putfield 130, 3) := by decide +kernel
theorem dX12_sign_39 : decode cX12_sign 39 = .ok (.iload_n 1, 1) := by decide +kernel
theorem dX12_sign_40 : decode cX12_sign 40 = .ok (.bipush 8, 2) := by decide +kernel
theorem dX12_sign_42 : decode cX12_sign 42 = .ok (.iload_n 2, 1) := by decide +kernel
theorem dX12_sign_43 : decode cX12_sign 43 = .ok (.imul, 1) := by decide +kernel
theorem dX12_sign_44 : decode cX12_sign 44 = .ok (.ishr, 1) := by decide +kernel
theorem dX12_sign_45 : decode cX12_sign 45 = .ok (.i2b, 1) := by decide +kernel
theorem dX12_sign_46 : decode cX12_sign 46 = .ok (.bastore, 1) := by decide +kernel
theorem dX12_sign_47 : decode cX12_sign 47 = .ok (.iinc 2 (-1), 3) := by decide +kernel
theorem dX12_sign_50 : decode cX12_sign 50 = .ok (.goto (-30), 3) := by decide +kernel
theorem dX12_sign_53 : decode cX12_sign 53 = .ok (.aload_n 0, 1) := by decide +kernel
theorem dX12_sign_54 : decode cX12_sign 54 = .ok (.getfield 130, 3) := by decide +kernel
theorem dX12_sign_57 : decode cX12_sign 57 = .ok (.ireturn, 1) := by decide +kernel
theorem dX12_end_0 : decode cX12_end 0 = .ok (.aload_n 0, 1) := by decide +kernel
theorem dX12_end_1 : decode cX12_end 1 = .ok (.iconst 0, 1) := by decide +kernel
theorem dX12_end_2 : decode cX12_end 2 = .ok (.putfield 123, 3) := by decide +kernel
theorem dX12_end_5 : decode cX12_end 5 = .ok (.iload_n 1, 1) := by decide +kernel
theorem dX12_end_6 : decode cX12_end 6 = .ok (.iconst 0, 1) := by decide +kernel
theorem dX12_end_7 : decode cX12_end 7 = .ok (.aload_n 0, 1) := by decide +kernel
theorem dX12_end_8 : decode cX12_end 8 = .ok (.getfield 130, 3) := by decide +kernel
theorem dX12_end_11 : decode cX12_end 11 = .ok (.invokestatic 133, 3) := by decide +kernel
theorem dX12_end_14 : decode cX12_end 14 = .ok (.ifCond .ne 5, 3) := by decide +kernel
theorem dX12_end_17 : decode cX12_end 17 = .ok (.iconst 0, 1) := by decide +kernel
theorem dX12_end_18 : decode cX12_end 18 = .ok (.ireturn, 1) := by decide +kernel
theorem dX12_end_19 : decode cX12_end 19 = .ok (.aload_n 0, 1) := by decide +kernel
theorem dX12_end_20 : decode cX12_end 20 = .ok (.iload_n 1, 1) := by decide +kernel
theorem dX12_end_21 : decode cX12_end 21 = .ok (.putfield 130, 3) := by decide +kernel
theorem dX12_end_24 : decode cX12_end 24 = .ok (.iconst 1, 1) := by decide +kernel
theorem dX12_end_25 : decode cX12_end 25 = .ok (.ireturn, 1) := by decide +kernel
theorem dX12_begin_0 : decode cX12_begin 0 = .ok (.aload_n 0, 1) := by decide +kernel
theorem dX12_begin_1 : decode cX12_begin 1 = .ok (.aload_n 0, 1) := by decide +kernel
theorem dX12_begin_2 : decode cX12_begin 2 = .ok (.getfield 130, 3) := by decide +kernel
theorem dX12_begin_5 : decode cX12_begin 5 = .ok (.putfield 137, 3) := by decide +kernel
theorem dX12_begin_8 : decode cX12_begin 8 = .ok (.iconst 0, 1) := by decide +kernel
theorem dX12_begin_9 : decode cX12_begin 9 = .ok (.istore_n 1, 1) := by decide +kernel
theorem dX12_begin_10 : decode cX12_begin 10 = .ok (.iload_n 1, 1) := by decide +kernel
theorem dX12_begin_11 : decode cX12_begin 11 = .ok (.aload_n 0, 1) := by decide +kernel
theorem dX12_begin_12 : decode cX12_begin 12 = .ok (.getfield 137, 3) := by decide +kernel
theorem dX12_begin_15 : decode cX12_begin 15 = .ok (.if_icmp .ge 25, 3) := by decide +kernel
theorem dX12_begin_18 : decode cX12_begin 18 = .ok (.aload_n 0, 1) := by decide +kernel
theorem dX12_begin_19 : decode cX12_begin 19 = .ok (.getfield 21, 3) := by decide +kernel
theorem dX12_begin_22 : decode cX12_begin 22 = .ok (.iload_n 1, 1) := by decide +kernel
theorem dX12_begin_23 : decode cX12_begin 23 = .ok (.aload_n 0, 1) := by decide +kernel
theorem dX12_begin_24 : decode cX12_begin 24 = .ok (.getfield 13, 3) := by decide +kernel
theorem dX12_begin_27 : decode cX12_begin 27 = .ok (.iload_n 1, 1) := by decide +kernel
theorem dX12_begin_28 : decode cX12_begin 28 = .ok (.baload, 1) := by decide +kernel
theorem dX12_begin_29 : decode cX12_begin 29 = .ok (.sipush 255, 3) := by decide +kernel
theorem dX12_begin_32 : decode cX12_begin 32 = .ok (.iand, 1) := by decide +kernel
theorem dX12_begin_33 : decode cX12_begin 33 = .ok (.iastore, 1) := by decide +kernel
theorem dX12_begin_34 : decode cX12_begin 34 = .ok (.iinc 1 1, 3) := by decide +kernel
theorem dX12_begin_37 : decode cX12_begin 37 = .ok (.goto (-27), 3) := by decide +kernel
theorem dX12_begin_40 : decode cX12_begin 40 = .ok (.aload_n 0, 1) := by decide +kernel
theorem dX12_begin_41 : decode cX12_begin 41 = .ok (.iconst 0, 1) := by decide +kernel
theorem dX12_begin_42 : decode cX12_begin 42 = .ok (.putfield 140, 3) := by decide +kernel
theorem dX12_begin_45 : decode cX12_begin 45 = .ok (.aload_n 0, 1) := by decide +kernel
theorem dX12_begin_46 : decode cX12_begin 46 = .ok (.iconst (-1), 1) := by decide +kernel
theorem dX12_begin_47 : decode cX12_begin 47 = .ok (.putfield 143, 3) := by decide +kernel
theorem dX12_begin_50 : decode cX12_begin 50 = .ok (.aload_n 0, 1) := by decide +kernel
theorem dX12_begin_51 : decode cX12_begin 51 = .ok (.iconst 0, 1) := by decide +kernel
theorem dX12_begin_52 : decode cX12_begin 52 = .ok (.putfield 130, 3) := by decide +kernel
theorem dX12_begin_55 : decode cX12_begin 55 = .ok (.return_, 1) := by decide +kernel
theorem dX12_here_0 : decode cX12_here 0 = .ok (.aload_n 0, 1) := by decide +kernel
theorem dX12_here_1 : decode cX12_here 1 = .ok (.getfield 140, 3) := by decide +kernel
theorem dX12_here_4 : decode cX12_here 4 = .ok (.aload_n 0, 1) := by decide +kernel
theorem dX12_here_5 : decode cX12_here 5 = .ok (.getfield 137, 3) := by decide +kernel
theorem dX12_here_8 : decode cX12_here 8 = .ok (.if_icmp .ge 15, 3) := by decide +kernel
theorem dX12_here_11 : decode cX12_here 11 = .ok (.aload_n 0, 1) := by decide +kernel
theorem dX12_here_12 : decode cX12_here 12 = .ok (.getfield 21, 3) := by decide +kernel
theorem dX12_here_15 : decode cX12_here 15 = .ok (.aload_n 0, 1) := by decide +kernel
theorem dX12_here_16 : decode cX12_here 16 = .ok (.getfield 140, 3) := by decide +kernel
theorem dX12_here_19 : decode cX12_here 19 = .ok (.iaload, 1) := by decide +kernel
theorem dX12_here_20 : decode cX12_here 20 = .ok (.goto 4, 3) := by decide +kernel
theorem dX12_here_23 : decode cX12_here 23 = .ok (.iconst (-1), 1) := by decide +kernel
theorem dX12_here_24 : decode cX12_here 24 = .ok (.ireturn, 1) := by decide +kernel
theorem dX12_fine_0 : decode cX12_fine 0 = .ok (.aload_n 0, 1) := by decide +kernel
theorem dX12_fine_1 : decode cX12_fine 1 = .ok (.getfield 143, 3) := by decide +kernel
theorem dX12_fine_4 : decode cX12_fine 4 = .ok (.iconst (-1), 1) := by decide +kernel
theorem dX12_fine_5 : decode cX12_fine 5 = .ok (.if_icmp .ne 7, 3) := by decide +kernel
theorem dX12_fine_8 : decode cX12_fine 8 = .ok (.iconst 1, 1) := by decide +kernel
theorem dX12_fine_9 : decode cX12_fine 9 = .ok (.goto 4, 3) := by decide +kernel
theorem dX12_fine_12 : decode cX12_fine 12 = .ok (.iconst 0, 1) := by decide +kernel
theorem dX12_fine_13 : decode cX12_fine 13 = .ok (.ireturn, 1) := by decide +kernel
theorem dX12_fault_0 : decode cX12_fault 0 = .ok (.aload_n 0, 1) := by decide +kernel
theorem dX12_fault_1 : decode cX12_fault 1 = .ok (.invokevirtual 146, 3) := by decide +kernel
theorem dX12_fault_4 : decode cX12_fault 4 = .ok (.ifCond .eq 8, 3) := by decide +kernel
theorem dX12_fault_7 : decode cX12_fault 7 = .ok (.aload_n 0, 1) := by decide +kernel
theorem dX12_fault_8 : decode cX12_fault 8 = .ok (.iload_n 1, 1) := by decide +kernel
theorem dX12_fault_9 : decode cX12_fault 9 = .ok (.putfield 143, 3) := by decide +kernel
theorem dX12_fault_12 : decode cX12_fault 12 = .ok (.return_, 1) := by decide +kernel
theorem dX12_passes_0 : decode cX12_passes 0 = .ok (.aload_n 0, 1) := by decide +kernel
theorem dX12_passes_1 : decode cX12_passes 1 = .ok (.invokevirtual 146, 3) := by decide +kernel
theorem dX12_passes_4 : decode cX12_passes 4 = .ok (.ifCond .eq 11, 3) := by decide +kernel
theorem dX12_passes_7 : decode cX12_passes 7 = .ok (.aload_n 0, 1) := by decide +kernel
theorem dX12_passes_8 : decode cX12_passes 8 = .ok (.invokevirtual 150, 3) := by decide +kernel
theorem dX12_passes_11 : decode cX12_passes 11 = .ok (.iload_n 1, 1) := by decide +kernel
theorem dX12_passes_12 : decode cX12_passes 12 = .ok (.if_icmp .eq 5, 3) := by decide +kernel
theorem dX12_passes_15 : decode cX12_passes 15 = .ok (.iconst 0, 1) := by decide +kernel
theorem dX12_passes_16 : decode cX12_passes 16 = .ok (.ireturn, 1) := by decide +kernel
theorem dX12_passes_17 : decode cX12_passes 17 = .ok (.aload_n 0, 1) := by decide +kernel
theorem dX12_passes_18 : decode cX12_passes 18 = .ok (.dup, 1) := by decide +kernel
theorem dX12_passes_19 : decode cX12_passes 19 = .ok (.getfield 140, 3) := by decide +kernel
theorem dX12_passes_22 : decode cX12_passes 22 = .ok (.iconst 1, 1) := by decide +kernel
theorem dX12_passes_23 : decode cX12_passes 23 = .ok (.iadd, 1) := by decide +kernel
theorem dX12_passes_24 : decode cX12_passes 24 = .ok (.putfield 140, 3) := by decide +kernel
theorem dX12_passes_27 : decode cX12_passes 27 = .ok (.iconst 1, 1) := by decide +kernel
theorem dX12_passes_28 : decode cX12_passes 28 = .ok (.ireturn, 1) := by decide +kernel
theorem dX12_need_0 : decode cX12_need 0 = .ok (.aload_n 0, 1) := by decide +kernel
theorem dX12_need_1 : decode cX12_need 1 = .ok (.iload_n 1, 1) := by decide +kernel
theorem dX12_need_2 : decode cX12_need 2 = .ok (.invokevirtual 154, 3) := by decide +kernel
theorem dX12_need_5 : decode cX12_need 5 = .ok (.ifCond .ne 11, 3) := by decide +kernel
theorem dX12_need_8 : decode cX12_need 8 = .ok (.aload_n 0, 1) := by decide +kernel
theorem dX12_need_9 : decode cX12_need 9 = .ok (.aload_n 0, 1) := by decide +kernel
theorem dX12_need_10 : decode cX12_need 10 = .ok (.getfield 140, 3) := by decide +kernel
theorem dX12_need_13 : decode cX12_need 13 = .ok (.invokevirtual 158, 3) := by decide +kernel
theorem dX12_need_16 : decode cX12_need 16 = .ok (.return_, 1) := by decide +kernel
theorem dX12_oneOf_0 : decode cX12_oneOf 0 = .ok (.aload_n 0, 1) := by decide +kernel
theorem dX12_oneOf_1 : decode cX12_oneOf 1 = .ok (.invokevirtual 146, 3) := by decide +kernel
theorem dX12_oneOf_4 : decode cX12_oneOf 4 = .ok (.ifCond .ne 5, 3) := by decide +kernel
theorem dX12_oneOf_7 : decode cX12_oneOf 7 = .ok (.iconst 0, 1) := by decide +kernel
theorem dX12_oneOf_8 : decode cX12_oneOf 8 = .ok (.ireturn, 1) := by decide +kernel
theorem dX12_oneOf_9 : decode cX12_oneOf 9 = .ok (.aload_n 0, 1) := by decide +kernel
theorem dX12_oneOf_10 : decode cX12_oneOf 10 = .ok (.invokevirtual 150, 3) := by decide +kernel
theorem dX12_oneOf_13 : decode cX12_oneOf 13 = .ok (.iload_n 1, 1) := by decide +kernel
theorem dX12_oneOf_14 : decode cX12_oneOf 14 = .ok (.iload_n 1, 1) := by decide +kernel
theorem dX12_oneOf_15 : decode cX12_oneOf 15 = .ok (.iload_n 2, 1) := by decide +kernel
theorem dX12_oneOf_16 : decode cX12_oneOf 16 = .ok (.iadd, 1) := by decide +kernel
theorem dX12_oneOf_17 : decode cX12_oneOf 17 = .ok (.iconst 1, 1) := by decide +kernel
theorem dX12_oneOf_18 : decode cX12_oneOf 18 = .ok (.isub, 1) := by decide +kernel
theorem dX12_oneOf_19 : decode cX12_oneOf 19 = .ok (.invokestatic 133, 3) := by decide +kernel
theorem dX12_oneOf_22 : decode cX12_oneOf 22 = .ok (.ifCond .ne 13, 3) := by decide +kernel
theorem dX12_oneOf_25 : decode cX12_oneOf 25 = .ok (.aload_n 0, 1) := by decide +kernel
theorem dX12_oneOf_26 : decode cX12_oneOf 26 = .ok (.aload_n 0, 1) := by decide +kernel
theorem dX12_oneOf_27 : decode cX12_oneOf 27 = .ok (.getfield 140, 3) := by decide +kernel
theorem dX12_oneOf_30 : decode cX12_oneOf 30 = .ok (.invokevirtual 158, 3) := by decide +kernel
theorem dX12_oneOf_33 : decode cX12_oneOf 33 = .ok (.iconst 0, 1) := by decide +kernel
theorem dX12_oneOf_34 : decode cX12_oneOf 34 = .ok (.ireturn, 1) := by decide +kernel
theorem dX12_oneOf_35 : decode cX12_oneOf 35 = .ok (.aload_n 0, 1) := by decide +kernel
theorem dX12_oneOf_36 : decode cX12_oneOf 36 = .ok (.dup, 1) := by decide +kernel
theorem dX12_oneOf_37 : decode cX12_oneOf 37 = .ok (.getfield 140, 3) := by decide +kernel
theorem dX12_oneOf_40 : decode cX12_oneOf 40 = .ok (.iconst 1, 1) := by decide +kernel
theorem dX12_oneOf_41 : decode cX12_oneOf 41 = .ok (.iadd, 1) := by decide +kernel
theorem dX12_oneOf_42 : decode cX12_oneOf 42 = .ok (.putfield 140, 3) := by decide +kernel
theorem dX12_oneOf_45 : decode cX12_oneOf 45 = .ok (.aload_n 0, 1) := by decide +kernel
theorem dX12_oneOf_46 : decode cX12_oneOf 46 = .ok (.getfield 21, 3) := by decide +kernel
theorem dX12_oneOf_49 : decode cX12_oneOf 49 = .ok (.aload_n 0, 1) := by decide +kernel
theorem dX12_oneOf_50 : decode cX12_oneOf 50 = .ok (.getfield 140, 3) := by decide +kernel
theorem dX12_oneOf_53 : decode cX12_oneOf 53 = .ok (.iconst 1, 1) := by decide +kernel
theorem dX12_oneOf_54 : decode cX12_oneOf 54 = .ok (.isub, 1) := by decide +kernel
theorem dX12_oneOf_55 : decode cX12_oneOf 55 = .ok (.iaload, 1) := by decide +kernel
