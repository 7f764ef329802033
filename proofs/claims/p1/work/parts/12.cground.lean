theorem dX3_refresh_0 : decode cX3_refresh 0 = .ok (.aload_n 0, 1) := by decide +kernel
theorem dX3_refresh_1 : decode cX3_refresh 1 = .ok (.getfield 51, 3) := by decide +kernel
theorem dX3_refresh_4 : decode cX3_refresh 4 = .ok (.ifCond .eq 4, 3) := by decide +kernel
theorem dX3_refresh_7 : decode cX3_refresh 7 = .ok (.return_, 1) := by decide +kernel
theorem dX3_refresh_8 : decode cX3_refresh 8 = .ok (.aload_n 0, 1) := by decide +kernel
theorem dX3_refresh_9 : decode cX3_refresh 9 = .ok (.getfield 21, 3) := by decide +kernel
theorem dX3_refresh_12 : decode cX3_refresh 12 = .ok (.invokevirtual 55, 3) := by decide +kernel
theorem dX3_refresh_15 : decode cX3_refresh 15 = .ok (.aload_n 0, 1) := by decide +kernel
theorem dX3_refresh_16 : decode cX3_refresh 16 = .ok (.getfield 25, 3) := by decide +kernel
theorem dX3_refresh_19 : decode cX3_refresh 19 = .ok (.invokevirtual 55, 3) := by decide +kernel
theorem dX3_refresh_22 : decode cX3_refresh 22 = .ok (.aload_n 0, 1) := by decide +kernel
theorem dX3_refresh_23 : decode cX3_refresh 23 = .ok (.invokevirtual 58, 3) := by decide +kernel
theorem dX3_refresh_26 : decode cX3_refresh 26 = .ok (.aload_n 0, 1) := by decide +kernel
theorem dX3_refresh_27 : decode cX3_refresh 27 = .ok (.iconst 0, 1) := by decide +kernel
theorem dX3_refresh_28 : decode cX3_refresh 28 = .ok (.putfield 61, 3) := by decide +kernel
theorem dX3_refresh_31 : decode cX3_refresh 31 = .ok (.aload_n 0, 1) := by decide +kernel
theorem dX3_refresh_32 : decode cX3_refresh 32 = .ok (.invokevirtual 65, 3) := by decide +kernel
theorem dX3_refresh_35 : decode cX3_refresh 35 = .ok (.aload_n 0, 1) := by decide +kernel
theorem dX3_refresh_36 : decode cX3_refresh 36 = .ok (.iconst 1, 1) := by decide +kernel
theorem dX3_refresh_37 : decode cX3_refresh 37 = .ok (.putfield 61, 3) := by decide +kernel
theorem dX3_refresh_40 : decode cX3_refresh 40 = .ok (.aload_n 0, 1) := by decide +kernel
theorem dX3_refresh_41 : decode cX3_refresh 41 = .ok (.invokevirtual 65, 3) := by decide +kernel
theorem dX3_refresh_44 : decode cX3_refresh 44 = .ok (.aload_n 0, 1) := by decide +kernel
theorem dX3_refresh_45 : decode cX3_refresh 45 = .ok (.iconst 2, 1) := by decide +kernel
theorem dX3_refresh_46 : decode cX3_refresh 46 = .ok (.putfield 61, 3) := by decide +kernel
theorem dX3_refresh_49 : decode cX3_refresh 49 = .ok (.aload_n 0, 1) := by decide +kernel
theorem dX3_refresh_50 : decode cX3_refresh 50 = .ok (.invokevirtual 68, 3) := by decide +kernel
theorem dX3_refresh_53 : decode cX3_refresh 53 = .ok (.aload_n 0, 1) := by decide +kernel
theorem dX3_refresh_54 : decode cX3_refresh 54 = .ok (.invokevirtual 71, 3) := by decide +kernel
theorem dX3_refresh_57 : decode cX3_refresh 57 = .ok (.aload_n 0, 1) := by decide +kernel
theorem dX3_refresh_58 : decode cX3_refresh 58 = .ok (.iconst 1, 1) := by decide +kernel
theorem dX3_refresh_59 : decode cX3_refresh 59 = .ok (.putfield 51, 3) := by decide +kernel
theorem dX3_refresh_62 : decode cX3_refresh 62 = .ok (.return_, 1) := by decide +kernel
theorem dX3_beginWithExternals_0 : decode cX3_beginWithExternals 0 = .ok (.iconst 0, 1) := by decide +kernel
theorem dX3_beginWithExternals_1 : decode cX3_beginWithExternals 1 = .ok (.istore_n 1, 1) := by decide +kernel
theorem dX3_beginWithExternals_2 : decode cX3_beginWithExternals 2 = .ok (.iload_n 1, 1) := by decide +kernel
theorem dX3_beginWithExternals_3 : decode cX3_beginWithExternals 3 = .ok (.aload_n 0, 1) := by decide +kernel
theorem dX3_beginWithExternals_4 : decode cX3_beginWithExternals 4 = .ok (.getfield 47, 3) := by decide +kernel
theorem dX3_beginWithExternals_7 : decode cX3_beginWithExternals 7 = .ok (.getfield 74, 3) := by decide +kernel
theorem dX3_beginWithExternals_10 : decode cX3_beginWithExternals 10 = .ok (.if_icmp .ge 68, 3) := by decide +kernel
theorem dX3_beginWithExternals_13 : decode cX3_beginWithExternals 13 = .ok (.aload_n 0, 1) := by decide +kernel
theorem dX3_beginWithExternals_14 : decode cX3_beginWithExternals 14 = .ok (.getfield 47, 3) := by decide +kernel
theorem dX3_beginWithExternals_17 : decode cX3_beginWithExternals 17 = .ok (.iload_n 1, 1) := by decide +kernel
theorem dX3_beginWithExternals_18 : decode cX3_beginWithExternals 18 = .ok (.invokevirtual 79, 3) := by decide +kernel
theorem dX3_beginWithExternals_21 : decode cX3_beginWithExternals 21 = .ok (.istore_n 2, 1) := by decide +kernel
theorem dX3_beginWithExternals_22 : decode cX3_beginWithExternals 22 = .ok (.iload_n 2, 1) := by decide +kernel
theorem dX3_beginWithExternals_23 : decode cX3_beginWithExternals 23 = .ok (.bipush 116, 2) := by decide +kernel
theorem dX3_beginWithExternals_25 : decode cX3_beginWithExternals 25 = .ok (.if_icmp .ne 19, 3) := by decide +kernel
theorem dX3_beginWithExternals_28 : decode cX3_beginWithExternals 28 = .ok (.aload_n 0, 1) := by decide +kernel
theorem dX3_beginWithExternals_29 : decode cX3_beginWithExternals 29 = .ok (.getfield 21, 3) := by decide +kernel
theorem dX3_beginWithExternals_32 : decode cX3_beginWithExternals 32 = .ok (.aload_n 0, 1) := by decide +kernel
theorem dX3_beginWithExternals_33 : decode cX3_beginWithExternals 33 = .ok (.getfield 47, 3) := by decide +kernel
theorem dX3_beginWithExternals_36 : decode cX3_beginWithExternals 36 = .ok (.iload_n 1, 1) := by decide +kernel
theorem dX3_beginWithExternals_37 : decode cX3_beginWithExternals 37 = .ok (.invokevirtual 83, 3) := by decide +kernel
theorem dX3_beginWithExternals_40 : decode cX3_beginWithExternals 40 = .ok (.invokevirtual 87, 3) := by decide +kernel
theorem dX3_beginWithExternals_43 : decode cX3_beginWithExternals 43 = .ok (.pop, 1) := by decide +kernel
theorem dX3_beginWithExternals_44 : decode cX3_beginWithExternals 44 = .ok (.iload_n 2, 1) := by decide +kernel
theorem dX3_beginWithExternals_45 : decode cX3_beginWithExternals 45 = .ok (.bipush 116, 2) := by decide +kernel
theorem dX3_beginWithExternals_47 : decode cX3_beginWithExternals 47 = .ok (.if_icmp .eq 9, 3) := by decide +kernel
theorem dX3_beginWithExternals_50 : decode cX3_beginWithExternals 50 = .ok (.iload_n 2, 1) := by decide +kernel
theorem dX3_beginWithExternals_51 : decode cX3_beginWithExternals 51 = .ok (.bipush 117, 2) := by decide +kernel
theorem dX3_beginWithExternals_53 : decode cX3_beginWithExternals 53 = .ok (.if_icmp .ne 19, 3) := by decide +kernel
theorem dX3_beginWithExternals_56 : decode cX3_beginWithExternals 56 = .ok (.aload_n 0, 1) := by decide +kernel
theorem dX3_beginWithExternals_57 : decode cX3_beginWithExternals 57 = .ok (.getfield 25, 3) := by decide +kernel
theorem dX3_beginWithExternals_60 : decode cX3_beginWithExternals 60 = .ok (.aload_n 0, 1) := by decide +kernel
theorem dX3_beginWithExternals_61 : decode cX3_beginWithExternals 61 = .ok (.getfield 47, 3) := by decide +kernel
theorem dX3_beginWithExternals_64 : decode cX3_beginWithExternals 64 = .ok (.iload_n 1, 1) := by decide +kernel
theorem dX3_beginWithExternals_65 : decode cX3_beginWithExternals 65 = .ok (.invokevirtual 83, 3) := by decide +kernel
theorem dX3_beginWithExternals_68 : decode cX3_beginWithExternals 68 = .ok (.invokevirtual 87, 3) := by decide +kernel
theorem dX3_beginWithExternals_71 : decode cX3_beginWithExternals 71 = .ok (.pop, 1) := by decide +kernel
theorem dX3_beginWithExternals_72 : decode cX3_beginWithExternals 72 = .ok (.iinc 1 1, 3) := by decide +kernel
theorem dX3_beginWithExternals_75 : decode cX3_beginWithExternals 75 = .ok (.goto (-73), 3) := by decide +kernel
theorem dX3_beginWithExternals_78 : decode cX3_beginWithExternals 78 = .ok (.return_, 1) := by decide +kernel
theorem dX3_spread_0 : decode cX3_spread 0 = .ok (.aload_n 0, 1) := by decide +kernel
theorem dX3_spread_1 : decode cX3_spread 1 = .ok (.iconst (-1), 1) := by decide +kernel
theorem dX3_spread_2 : decode cX3_spread 2 = .ok (.invokevirtual 91, 3) := by decide +kernel
theorem dX3_spread_5 : decode cX3_spread 5 = .ok (.istore_n 1, 1) := by decide +kernel
theorem dX3_spread_6 : decode cX3_spread 6 = .ok (.iconst 0, 1) := by decide +kernel
theorem dX3_spread_7 : decode cX3_spread 7 = .ok (.istore_n 2, 1) := by decide +kernel
theorem dX3_spread_8 : decode cX3_spread 8 = .ok (.iload_n 1, 1) := by decide +kernel
theorem dX3_spread_9 : decode cX3_spread 9 = .ok (.ifCond .eq 138, 3) := by decide +kernel
theorem dX3_spread_12 : decode cX3_spread 12 = .ok (.iload_n 2, 1) := by decide +kernel
theorem dX3_spread_13 : decode cX3_spread 13 = .ok (.sipush 1000, 3) := by decide +kernel
theorem dX3_spread_16 : decode cX3_spread 16 = .ok (.if_icmp .ge 131, 3) := by decide +kernel
theorem dX3_spread_19 : decode cX3_spread 19 = .ok (.iconst 0, 1) := by decide +kernel
theorem dX3_spread_20 : decode cX3_spread 20 = .ok (.istore_n 3, 1) := by decide +kernel
theorem dX3_spread_21 : decode cX3_spread 21 = .ok (.iload_n 3, 1) := by decide +kernel
theorem dX3_spread_22 : decode cX3_spread 22 = .ok (.aload_n 0, 1) := by decide +kernel
theorem dX3_spread_23 : decode cX3_spread 23 = .ok (.getfield 47, 3) := by decide +kernel
theorem dX3_spread_26 : decode cX3_spread 26 = .ok (.getfield 94, 3) := by decide +kernel
theorem dX3_spread_29 : decode cX3_spread 29 = .ok (.if_icmp .ge 112, 3) := by decide +kernel
theorem dX3_spread_32 : decode cX3_spread 32 = .ok (.aload_n 0, 1) := by decide +kernel
theorem dX3_spread_33 : decode cX3_spread 33 = .ok (.getfield 47, 3) := by decide +kernel
theorem dX3_spread_36 : decode cX3_spread 36 = .ok (.iload_n 3, 1) := by decide +kernel
theorem dX3_spread_37 : decode cX3_spread 37 = .ok (.invokevirtual 97, 3) := by decide +kernel
theorem dX3_spread_40 : decode cX3_spread 40 = .ok (.astore 4, 2) := by decide +kernel
theorem dX3_spread_42 : decode cX3_spread 42 = .ok (.aload 4, 2) := by decide +kernel
theorem dX3_spread_44 : decode cX3_spread 44 = .ok (.ifnull 91, 3) := by decide +kernel
theorem dX3_spread_47 : decode cX3_spread 47 = .ok (.iload_n 1, 1) := by decide +kernel
theorem dX3_spread_48 : decode cX3_spread 48 = .ok (.iload_n 3, 1) := by decide +kernel
theorem dX3_spread_49 : decode cX3_spread 49 = .ok (.ishr, 1) := by decide +kernel
theorem dX3_spread_50 : decode cX3_spread 50 = .ok (.iconst 1, 1) := by decide +kernel
theorem dX3_spread_51 : decode cX3_spread 51 = .ok (.iand, 1) := by decide +kernel
theorem dX3_spread_52 : decode cX3_spread 52 = .ok (.ifCond .ne 6, 3) := by decide +kernel
theorem dX3_spread_55 : decode cX3_spread 55 = .ok (.goto 80, 3) := by decide +kernel
theorem dX3_spread_58 : decode cX3_spread 58 = .ok (.iload_n 1, 1) := by decide +kernel
theorem dX3_spread_59 : decode cX3_spread 59 = .ok (.iconst 1, 1) := by decide +kernel
theorem dX3_spread_60 : decode cX3_spread 60 = .ok (.iload_n 3, 1) := by decide +kernel
theorem dX3_spread_61 : decode cX3_spread 61 = .ok (.ishl, 1) := by decide +kernel
theorem dX3_spread_62 : decode cX3_spread 62 = .ok (.iconst (-1), 1) := by decide +kernel
theorem dX3_spread_63 : decode cX3_spread 63 = .ok (.ixor, 1) := by decide +kernel
theorem dX3_spread_64 : decode cX3_spread 64 = .ok (.iand, 1) := by decide +kernel
theorem dX3_spread_65 : decode cX3_spread 65 = .ok (.istore_n 1, 1) := by decide +kernel
theorem dX3_spread_66 : decode cX3_spread 66 = .ok (.aload_n 0, 1) := by decide +kernel
theorem dX3_spread_67 : decode cX3_spread 67 = .ok (.iconst 0, 1) := by decide +kernel
theorem dX3_spread_68 : decode cX3_spread 68 = .ok (.putfield 101, 3) := by decide +kernel
theorem dX3_spread_71 : decode cX3_spread 71 = .ok (.iconst 0, 1) := by decide +kernel
theorem dX3_spread_72 : decode cX3_spread 72 = .ok (.istore 5, 2) := by decide +kernel
theorem dX3_spread_74 : decode cX3_spread 74 = .ok (.iload 5, 2) := by decide +kernel
theorem dX3_spread_76 : decode cX3_spread 76 = .ok (.aload_n 0, 1) := by decide +kernel
theorem dX3_spread_77 : decode cX3_spread 77 = .ok (.getfield 47, 3) := by decide +kernel
theorem dX3_spread_80 : decode cX3_spread 80 = .ok (.getfield 104, 3) := by decide +kernel
theorem dX3_spread_83 : decode cX3_spread 83 = .ok (.if_icmp .ge 30, 3) := by decide +kernel
theorem dX3_spread_86 : decode cX3_spread 86 = .ok (.aload_n 0, 1) := by decide +kernel
theorem dX3_spread_87 : decode cX3_spread 87 = .ok (.aload 4, 2) := by decide +kernel
theorem dX3_spread_89 : decode cX3_spread 89 = .ok (.iload_n 3, 1) := by decide +kernel
theorem dX3_spread_90 : decode cX3_spread 90 = .ok (.aload_n 0, 1) := by decide +kernel
theorem dX3_spread_91 : decode cX3_spread 91 = .ok (.getfield 47, 3) := by decide +kernel
theorem dX3_spread_94 : decode cX3_spread 94 = .ok (.iload 5, 2) := by decide +kernel
theorem dX3_spread_96 : decode cX3_spread 96 = .ok (.aload 4, 2) := by decide +kernel
theorem dX3_spread_98 : decode cX3_spread 98 = .ok (.getfield 107, 3) := by decide +kernel
theorem dX3_spread_101 : decode cX3_spread 101 = .ok (.invokevirtual 112, 3) := by decide +kernel
theorem dX3_spread_104 : decode cX3_spread 104 = .ok (.invokevirtual 116, 3) := by decide +kernel
theorem dX3_spread_107 : decode cX3_spread 107 = .ok (.iinc 5 1, 3) := by decide +kernel
theorem dX3_spread_110 : decode cX3_spread 110 = .ok (.goto (-36), 3) := by decide +kernel
theorem dX3_spread_113 : decode cX3_spread 113 = .ok (.iload_n 1, 1) := by decide +kernel
theorem dX3_spread_114 : decode cX3_spread 114 = .ok (.aload_n 0, 1) := by decide +kernel
theorem dX3_spread_115 : decode cX3_spread 115 = .ok (.getfield 101, 3) := by decide +kernel
theorem dX3_spread_118 : decode cX3_spread 118 = .ok (.ifCond .ne 7, 3) := by decide +kernel
theorem dX3_spread_121 : decode cX3_spread 121 = .ok (.iconst 0, 1) := by decide +kernel
theorem dX3_spread_122 : decode cX3_spread 122 = .ok (.goto 11, 3) := by decide +kernel
theorem dX3_spread_125 : decode cX3_spread 125 = .ok (.aload_n 0, 1) := by decide +kernel
theorem dX3_spread_126 : decode cX3_spread 126 = .ok (.aload_n 0, 1) := by decide +kernel
theorem dX3_spread_127 : decode cX3_spread 127 = .ok (.getfield 101, 3) := by decide +kernel
theorem dX3_spread_130 : decode cX3_spread 130 = .ok (.invokevirtual 91, 3) := by decide +kernel
theorem dX3_spread_133 : decode cX3_spread 133 = .ok (.ior, 1) := by decide +kernel
theorem dX3_spread_134 : decode cX3_spread 134 = .ok (.istore_n 1, 1) := by decide +kernel
theorem dX3_spread_135 : decode cX3_spread 135 = .ok (.iinc 3 1, 3) := by decide +kernel
theorem dX3_spread_138 : decode cX3_spread 138 = .ok (.goto (-117), 3) := by decide +kernel
theorem dX3_spread_141 : decode cX3_spread 141 = .ok (.iinc 2 1, 3) := by decide +kernel
theorem dX3_spread_144 : decode cX3_spread 144 = .ok (.goto (-136), 3) := by decide +kernel
theorem dX3_spread_147 : decode cX3_spread 147 = .ok (.return_, 1) := by decide +kernel
theorem dX3_rulesNeeding_0 : decode cX3_rulesNeeding 0 = .ok (.iconst 0, 1) := by decide +kernel
theorem dX3_rulesNeeding_1 : decode cX3_rulesNeeding 1 = .ok (.istore_n 2, 1) := by decide +kernel
theorem dX3_rulesNeeding_2 : decode cX3_rulesNeeding 2 = .ok (.iconst 0, 1) := by decide +kernel
theorem dX3_rulesNeeding_3 : decode cX3_rulesNeeding 3 = .ok (.istore_n 3, 1) := by decide +kernel
theorem dX3_rulesNeeding_4 : decode cX3_rulesNeeding 4 = .ok (.iload_n 3, 1) := by decide +kernel
theorem dX3_rulesNeeding_5 : decode cX3_rulesNeeding 5 = .ok (.aload_n 0, 1) := by decide +kernel
theorem dX3_rulesNeeding_6 : decode cX3_rulesNeeding 6 = .ok (.getfield 47, 3) := by decide +kernel
theorem dX3_rulesNeeding_9 : decode cX3_rulesNeeding 9 = .ok (.getfield 94, 3) := by decide +kernel
theorem dX3_rulesNeeding_12 : decode cX3_rulesNeeding 12 = .ok (.if_icmp .ge 73, 3) := by decide +kernel
theorem dX3_rulesNeeding_15 : decode cX3_rulesNeeding 15 = .ok (.aload_n 0, 1) := by decide +kernel
theorem dX3_rulesNeeding_16 : decode cX3_rulesNeeding 16 = .ok (.getfield 47, 3) := by decide +kernel
theorem dX3_rulesNeeding_19 : decode cX3_rulesNeeding 19 = .ok (.iload_n 3, 1) := by decide +kernel
theorem dX3_rulesNeeding_20 : decode cX3_rulesNeeding 20 = .ok (.invokevirtual 97, 3) := by decide +kernel
theorem dX3_rulesNeeding_23 : decode cX3_rulesNeeding 23 = .ok (.astore 4, 2) := by decide +kernel
theorem dX3_rulesNeeding_25 : decode cX3_rulesNeeding 25 = .ok (.aload 4, 2) := by decide +kernel
theorem dX3_rulesNeeding_27 : decode cX3_rulesNeeding 27 = .ok (.ifnull 52, 3) := by decide +kernel
theorem dX3_rulesNeeding_30 : decode cX3_rulesNeeding 30 = .ok (.aload 4, 2) := by decide +kernel
theorem dX3_rulesNeeding_32 : decode cX3_rulesNeeding 32 = .ok (.getfield 120, 3) := by decide +kernel
theorem dX3_rulesNeeding_35 : decode cX3_rulesNeeding 35 = .ok (.bipush 119, 2) := by decide +kernel
theorem dX3_rulesNeeding_37 : decode cX3_rulesNeeding 37 = .ok (.if_icmp .eq 42, 3) := by decide +kernel
theorem dX3_rulesNeeding_40 : decode cX3_rulesNeeding 40 = .ok (.aload_n 0, 1) := by decide +kernel
theorem dX3_rulesNeeding_41 : decode cX3_rulesNeeding 41 = .ok (.getfield 61, 3) := by decide +kernel
theorem dX3_rulesNeeding_44 : decode cX3_rulesNeeding 44 = .ok (.ifCond .ne 14, 3) := by decide +kernel
theorem dX3_rulesNeeding_47 : decode cX3_rulesNeeding 47 = .ok (.aload 4, 2) := by decide +kernel
theorem dX3_rulesNeeding_49 : decode cX3_rulesNeeding 49 = .ok (.invokevirtual 124, 3) := by decide +kernel
theorem dX3_rulesNeeding_52 : decode cX3_rulesNeeding 52 = .ok (.ifCond .ne 6, 3) := by decide +kernel
theorem dX3_rulesNeeding_55 : decode cX3_rulesNeeding 55 = .ok (.goto 24, 3) := by decide +kernel
theorem dX3_rulesNeeding_58 : decode cX3_rulesNeeding 58 = .ok (.iload_n 1, 1) := by decide +kernel
theorem dX3_rulesNeeding_59 : decode cX3_rulesNeeding 59 = .ok (.iconst (-1), 1) := by decide +kernel
theorem dX3_rulesNeeding_60 : decode cX3_rulesNeeding 60 = .ok (.if_icmp .eq 13, 3) := by decide +kernel
theorem dX3_rulesNeeding_63 : decode cX3_rulesNeeding 63 = .ok (.aload 4, 2) := by decide +kernel
theorem dX3_rulesNeeding_65 : decode cX3_rulesNeeding 65 = .ok (.invokevirtual 128, 3) := by decide +kernel
theorem dX3_rulesNeeding_68 : decode cX3_rulesNeeding 68 = .ok (.iload_n 1, 1) := by decide +kernel
theorem dX3_rulesNeeding_69 : decode cX3_rulesNeeding 69 = .ok (.iand, 1) := by decide +kernel
theorem dX3_rulesNeeding_70 : decode cX3_rulesNeeding 70 = .ok (.ifCond .eq 9, 3) := by decide +kernel
theorem dX3_rulesNeeding_73 : decode cX3_rulesNeeding 73 = .ok (.iload_n 2, 1) := by decide +kernel
theorem dX3_rulesNeeding_74 : decode cX3_rulesNeeding 74 = .ok (.iconst 1, 1) := by decide +kernel
theorem dX3_rulesNeeding_75 : decode cX3_rulesNeeding 75 = .ok (.iload_n 3, 1) := by decide +kernel
theorem dX3_rulesNeeding_76 : decode cX3_rulesNeeding 76 = .ok (.ishl, 1) := by decide +kernel
theorem dX3_rulesNeeding_77 : decode cX3_rulesNeeding 77 = .ok (.ior, 1) := by decide +kernel
theorem dX3_rulesNeeding_78 : decode cX3_rulesNeeding 78 = .ok (.istore_n 2, 1) := by decide +kernel
theorem dX3_rulesNeeding_79 : decode cX3_rulesNeeding 79 = .ok (.iinc 3 1, 3) := by decide +kernel
theorem dX3_rulesNeeding_82 : decode cX3_rulesNeeding 82 = .ok (.goto (-78), 3) := by decide +kernel
theorem dX3_rulesNeeding_85 : decode cX3_rulesNeeding 85 = .ok (.iload_n 2, 1) := by decide +kernel
theorem dX3_rulesNeeding_86 : decode cX3_rulesNeeding 86 = .ok (.ireturn, 1) := by decide +kernel
theorem dX3_keepInstances_0 : decode cX3_keepInstances 0 = .ok (.aload_n 0, 1) := by decide +kernel
theorem dX3_keepInstances_1 : decode cX3_keepInstances 1 = .ok (.iconst 0, 1) := by decide +kernel
theorem dX3_keepInstances_2 : decode cX3_keepInstances 2 = .ok (.putfield 132, 3) := by decide +kernel
theorem dX3_keepInstances_5 : decode cX3_keepInstances 5 = .ok (.iconst 0, 1) := by decide +kernel
theorem dX3_keepInstances_6 : decode cX3_keepInstances 6 = .ok (.istore_n 1, 1) := by decide +kernel
theorem dX3_keepInstances_7 : decode cX3_keepInstances 7 = .ok (.iload_n 1, 1) := by decide +kernel
theorem dX3_keepInstances_8 : decode cX3_keepInstances 8 = .ok (.bipush 20, 2) := by decide +kernel
theorem dX3_keepInstances_10 : decode cX3_keepInstances 10 = .ok (.if_icmp .ge 66, 3) := by decide +kernel
theorem dX3_keepInstances_13 : decode cX3_keepInstances 13 = .ok (.aload_n 0, 1) := by decide +kernel
theorem dX3_keepInstances_14 : decode cX3_keepInstances 14 = .ok (.getfield 38, 3) := by decide +kernel
theorem dX3_keepInstances_17 : decode cX3_keepInstances 17 = .ok (.iload_n 1, 1) := by decide +kernel
theorem dX3_keepInstances_18 : decode cX3_keepInstances 18 = .ok (.iconst 0, 1) := by decide +kernel
theorem dX3_keepInstances_19 : decode cX3_keepInstances 19 = .ok (.iastore, 1) := by decide +kernel
theorem dX3_keepInstances_20 : decode cX3_keepInstances 20 = .ok (.aload_n 0, 1) := by decide +kernel
theorem dX3_keepInstances_21 : decode cX3_keepInstances 21 = .ok (.getfield 47, 3) := by decide +kernel
theorem dX3_keepInstances_24 : decode cX3_keepInstances 24 = .ok (.iload_n 1, 1) := by decide +kernel
theorem dX3_keepInstances_25 : decode cX3_keepInstances 25 = .ok (.invokevirtual 97, 3) := by decide +kernel
theorem dX3_keepInstances_28 : decode cX3_keepInstances 28 = .ok (.astore_n 2, 1) := by decide +kernel
theorem dX3_keepInstances_29 : decode cX3_keepInstances 29 = .ok (.iconst 0, 1) := by decide +kernel
theorem dX3_keepInstances_30 : decode cX3_keepInstances 30 = .ok (.istore_n 3, 1) := by decide +kernel
theorem dX3_keepInstances_31 : decode cX3_keepInstances 31 = .ok (.aload_n 2, 1) := by decide +kernel
theorem dX3_keepInstances_32 : decode cX3_keepInstances 32 = .ok (.ifnull 38, 3) := by decide +kernel
theorem dX3_keepInstances_35 : decode cX3_keepInstances 35 = .ok (.iload_n 3, 1) := by decide +kernel
theorem dX3_keepInstances_36 : decode cX3_keepInstances 36 = .ok (.aload_n 0, 1) := by decide +kernel
theorem dX3_keepInstances_37 : decode cX3_keepInstances 37 = .ok (.getfield 47, 3) := by decide +kernel
theorem dX3_keepInstances_40 : decode cX3_keepInstances 40 = .ok (.getfield 104, 3) := by decide +kernel
theorem dX3_keepInstances_43 : decode cX3_keepInstances 43 = .ok (.if_icmp .ge 27, 3) := by decide +kernel
theorem dX3_keepInstances_46 : decode cX3_keepInstances 46 = .ok (.aload_n 0, 1) := by decide +kernel
theorem dX3_keepInstances_47 : decode cX3_keepInstances 47 = .ok (.aload_n 2, 1) := by decide +kernel
theorem dX3_keepInstances_48 : decode cX3_keepInstances 48 = .ok (.iload_n 1, 1) := by decide +kernel
theorem dX3_keepInstances_49 : decode cX3_keepInstances 49 = .ok (.aload_n 0, 1) := by decide +kernel
theorem dX3_keepInstances_50 : decode cX3_keepInstances 50 = .ok (.getfield 47, 3) := by decide +kernel
theorem dX3_keepInstances_53 : decode cX3_keepInstances 53 = .ok (.iload_n 3, 1) := by decide +kernel
theorem dX3_keepInstances_54 : decode cX3_keepInstances 54 = .ok (.aload_n 2, 1) := by decide +kernel
theorem dX3_keepInstances_55 : decode cX3_keepInstances 55 = .ok (.getfield 107, 3) := by decide +kernel
theorem dX3_keepInstances_58 : decode cX3_keepInstances 58 = .ok (.invokevirtual 112, 3) := by decide +kernel
theorem dX3_keepInstances_61 : decode cX3_keepInstances 61 = .ok (.invokevirtual 116, 3) := by decide +kernel
theorem dX3_keepInstances_64 : decode cX3_keepInstances 64 = .ok (.iinc 3 1, 3) := by decide +kernel
theorem dX3_keepInstances_67 : decode cX3_keepInstances 67 = .ok (.goto (-36), 3) := by decide +kernel
theorem dX3_keepInstances_70 : decode cX3_keepInstances 70 = .ok (.iinc 1 1, 3) := by decide +kernel
theorem dX3_keepInstances_73 : decode cX3_keepInstances 73 = .ok (.goto (-66), 3) := by decide +kernel
theorem dX3_keepInstances_76 : decode cX3_keepInstances 76 = .ok (.return_, 1) := by decide +kernel
theorem dX3_numberOpenAtoms_0 : decode cX3_numberOpenAtoms 0 = .ok (.aload_n 0, 1) := by decide +kernel
theorem dX3_numberOpenAtoms_1 : decode cX3_numberOpenAtoms 1 = .ok (.iconst 0, 1) := by decide +kernel
theorem dX3_numberOpenAtoms_2 : decode cX3_numberOpenAtoms 2 = .ok (.putfield 216, 3) := by decide +kernel
theorem dX3_numberOpenAtoms_5 : decode cX3_numberOpenAtoms 5 = .ok (.iconst 0, 1) := by decide +kernel
theorem dX3_numberOpenAtoms_6 : decode cX3_numberOpenAtoms 6 = .ok (.istore_n 1, 1) := by decide +kernel
theorem dX3_numberOpenAtoms_7 : decode cX3_numberOpenAtoms 7 = .ok (.iload_n 1, 1) := by decide +kernel
theorem dX3_numberOpenAtoms_8 : decode cX3_numberOpenAtoms 8 = .ok (.sipush 384, 3) := by decide +kernel
theorem dX3_numberOpenAtoms_11 : decode cX3_numberOpenAtoms 11 = .ok (.if_icmp .ge 78, 3) := by decide +kernel
theorem dX3_numberOpenAtoms_14 : decode cX3_numberOpenAtoms 14 = .ok (.aload_n 0, 1) := by decide +kernel
theorem dX3_numberOpenAtoms_15 : decode cX3_numberOpenAtoms 15 = .ok (.getfield 44, 3) := by decide +kernel
theorem dX3_numberOpenAtoms_18 : decode cX3_numberOpenAtoms 18 = .ok (.iload_n 1, 1) := by decide +kernel
theorem dX3_numberOpenAtoms_19 : decode cX3_numberOpenAtoms 19 = .ok (.iconst (-1), 1) := by decide +kernel
theorem dX3_numberOpenAtoms_20 : decode cX3_numberOpenAtoms 20 = .ok (.iastore, 1) := by decide +kernel
theorem dX3_numberOpenAtoms_21 : decode cX3_numberOpenAtoms 21 = .ok (.aload_n 0, 1) := by decide +kernel
theorem dX3_numberOpenAtoms_22 : decode cX3_numberOpenAtoms 22 = .ok (.getfield 25, 3) := by decide +kernel
theorem dX3_numberOpenAtoms_25 : decode cX3_numberOpenAtoms 25 = .ok (.iload_n 1, 1) := by decide +kernel
theorem dX3_numberOpenAtoms_26 : decode cX3_numberOpenAtoms 26 = .ok (.invokevirtual 179, 3) := by decide +kernel
theorem dX3_numberOpenAtoms_29 : decode cX3_numberOpenAtoms 29 = .ok (.ifCond .eq 54, 3) := by decide +kernel
theorem dX3_numberOpenAtoms_32 : decode cX3_numberOpenAtoms 32 = .ok (.aload_n 0, 1) := by decide +kernel
theorem dX3_numberOpenAtoms_33 : decode cX3_numberOpenAtoms 33 = .ok (.getfield 21, 3) := by decide +kernel
theorem dX3_numberOpenAtoms_36 : decode cX3_numberOpenAtoms 36 = .ok (.iload_n 1, 1) := by decide +kernel
theorem dX3_numberOpenAtoms_37 : decode cX3_numberOpenAtoms 37 = .ok (.invokevirtual 179, 3) := by decide +kernel
theorem dX3_numberOpenAtoms_40 : decode cX3_numberOpenAtoms 40 = .ok (.ifCond .ne 43, 3) := by decide +kernel
theorem dX3_numberOpenAtoms_43 : decode cX3_numberOpenAtoms 43 = .ok (.aload_n 0, 1) := by decide +kernel
theorem dX3_numberOpenAtoms_44 : decode cX3_numberOpenAtoms 44 = .ok (.getfield 216, 3) := by decide +kernel
theorem dX3_numberOpenAtoms_47 : decode cX3_numberOpenAtoms 47 = .ok (.sipush 384, 3) := by decide +kernel
theorem dX3_numberOpenAtoms_50 : decode cX3_numberOpenAtoms 50 = .ok (.if_icmp .ge 33, 3) := by decide +kernel
theorem dX3_numberOpenAtoms_53 : decode cX3_numberOpenAtoms 53 = .ok (.aload_n 0, 1) := by decide +kernel
theorem dX3_numberOpenAtoms_54 : decode cX3_numberOpenAtoms 54 = .ok (.getfield 44, 3) := by decide +kernel
theorem dX3_numberOpenAtoms_57 : decode cX3_numberOpenAtoms 57 = .ok (.iload_n 1, 1) := by decide +kernel
theorem dX3_numberOpenAtoms_58 : decode cX3_numberOpenAtoms 58 = .ok (.aload_n 0, 1) := by decide +kernel
theorem dX3_numberOpenAtoms_59 : decode cX3_numberOpenAtoms 59 = .ok (.getfield 216, 3) := by decide +kernel
theorem dX3_numberOpenAtoms_62 : decode cX3_numberOpenAtoms 62 = .ok (.iastore, 1) := by decide +kernel
theorem dX3_numberOpenAtoms_63 : decode cX3_numberOpenAtoms 63 = .ok (.aload_n 0, 1) := by decide +kernel
theorem dX3_numberOpenAtoms_64 : decode cX3_numberOpenAtoms 64 = .ok (.getfield 41, 3) := by decide +kernel
theorem dX3_numberOpenAtoms_67 : decode cX3_numberOpenAtoms 67 = .ok (.aload_n 0, 1) := by decide +kernel
theorem dX3_numberOpenAtoms_68 : decode cX3_numberOpenAtoms 68 = .ok (.getfield 216, 3) := by decide +kernel
theorem dX3_numberOpenAtoms_71 : decode cX3_numberOpenAtoms 71 = .ok (.iload_n 1, 1) := by decide +kernel
theorem dX3_numberOpenAtoms_72 : decode cX3_numberOpenAtoms 72 = .ok (.iastore, 1) := by decide +kernel
theorem dX3_numberOpenAtoms_73 : decode cX3_numberOpenAtoms 73 = .ok (.aload_n 0, 1) := by decide +kernel
theorem dX3_numberOpenAtoms_74 : decode cX3_numberOpenAtoms 74 = .ok (.dup, 1) := by decide +kernel
theorem dX3_numberOpenAtoms_75 : decode cX3_numberOpenAtoms 75 = .ok (.getfield 216, 3) := by decide +kernel
theorem dX3_numberOpenAtoms_78 : decode cX3_numberOpenAtoms 78 = .ok (.iconst 1, 1) := by decide +kernel
theorem dX3_numberOpenAtoms_79 : decode cX3_numberOpenAtoms 79 = .ok (.iadd, 1) := by decide +kernel
theorem dX3_numberOpenAtoms_80 : decode cX3_numberOpenAtoms 80 = .ok (.putfield 216, 3) := by decide +kernel
theorem dX3_numberOpenAtoms_83 : decode cX3_numberOpenAtoms 83 = .ok (.iinc 1 1, 3) := by decide +kernel
theorem dX3_numberOpenAtoms_86 : decode cX3_numberOpenAtoms 86 = .ok (.goto (-79), 3) := by decide +kernel
theorem dX3_numberOpenAtoms_89 : decode cX3_numberOpenAtoms 89 = .ok (.return_, 1) := by decide +kernel
theorem dX10_open_0 : decode cX10_open 0 = .ok (.aload_n 0, 1) := by decide +kernel
theorem dX10_open_1 : decode cX10_open 1 = .ok (.getfield 21, 3) := by decide +kernel
theorem dX10_open_4 : decode cX10_open 4 = .ok (.invokevirtual 251, 3) := by decide +kernel
theorem dX10_open_7 : decode cX10_open 7 = .ok (.aload_n 0, 1) := by decide +kernel
theorem dX10_open_8 : decode cX10_open 8 = .ok (.getfield 21, 3) := by decide +kernel
theorem dX10_open_11 : decode cX10_open 11 = .ok (.getfield 263, 3) := by decide +kernel
theorem dX10_open_14 : decode cX10_open 14 = .ok (.ireturn, 1) := by decide +kernel
def vs_k_X3_beginWithExternals : List Cond := .code yX3_beginWithExternals cX3_beginWithExternals 3 none :: ([.fieldLink RX3 47 "AnswerFold$Grounding" "program" "LAnswerFold$Program;"] ++ (u_ws RX3 TX3 16 ++ (u_ws RX6 TX6 10)))
theorem iv_k_X3_beginWithExternals_X3 : ∀ w ∈ u_ws RX3 TX3 16, w ∈ vs_k_X3_beginWithExternals := (fun _ h => List.mem_cons_of_mem _ (List.mem_append_right _ (List.mem_append_left _ h)))
theorem iv_k_X3_beginWithExternals_X6 : ∀ w ∈ u_ws RX6 TX6 10, w ∈ vs_k_X3_beginWithExternals := (fun _ h => List.mem_cons_of_mem _ (List.mem_append_right _ (List.mem_append_right _ (h))))
set_option maxHeartbeats 4000000 in
set_option maxRecDepth 100000 in
theorem k_X3_beginWithExternals (l : Launch) (D : va_G) (ty : Nat → ClassId) (td mi sz : Nat) (x8 : Nat) (x1 : Nat) (x9 : Nat) (x10 : Nat) (x12 : Nat) (x14 : Nat) (x15 : Nat) (x16 : Nat) (x17 : Nat) (x18 : Nat) (x19 : Nat) (x2 : Nat) (x3 : Nat) (x4 : Nat) (x5 : Nat) (x6 : Nat) (x7 : Nat) : Met l yX3_beginWithExternals vs_k_X3_beginWithExternals { frames := 0, cells := 0, slots := 0, locals := 0 } (va_Pc [.ref x8] (wq_P D ty td mi [(x8, .inr (8, [.ref x1, .ref x9, .ref x10, .ref x12, .ref x14, .int 0, .ref x15, .ref x16, .ref x17, .int 0, .ref x18, .ref x19, .int 0, .int 0, .int 0, .int 0])), (x1, .inr (11, [.ref x2, .int 0, .ref x3, .int 0, .ref x4, .ref x5, .int 1, .ref x6, .ref x7, .int 0]))] sz)) (va_Qv (fun u : va_W => ((u = [(x8, .inr (8, [.ref x1, .ref x9, .ref x10, .ref x12, .ref x14, .int 0, .ref x15, .ref x16, .ref x17, .int 0, .ref x18, .ref x19, .int 0, .int 0, .int 0, .int 0])), (x1, .inr (11, [.ref x2, .int 0, .ref x3, .int 0, .ref x4, .ref x5, .int 1, .ref x6, .ref x7, .int 0]))]))) (wq_B D (va_A [(x8, .inr (8, [.ref x1, .ref x9, .ref x10, .ref x12, .ref x14, .int 0, .ref x15, .ref x16, .ref x17, .int 0, .ref x18, .ref x19, .int 0, .int 0, .int 0, .int 0])), (x1, .inr (11, [.ref x2, .int 0, .ref x3, .int 0, .ref x4, .ref x5, .int 1, .ref x6, .ref x7, .int 0]))] sz)) (va_A [(x8, .inr (8, [.ref x1, .ref x9, .ref x10, .ref x12, .ref x14, .int 0, .ref x15, .ref x16, .ref x17, .int 0, .ref x18, .ref x19, .int 0, .int 0, .int 0, .int 0])), (x1, .inr (11, [.ref x2, .int 0, .ref x3, .int 0, .ref x4, .ref x5, .int 1, .ref x6, .ref x7, .int 0]))] sz)) 0 0 (va_A [(x8, .inr (8, [.ref x1, .ref x9, .ref x10, .ref x12, .ref x14, .int 0, .ref x15, .ref x16, .ref x17, .int 0, .ref x18, .ref x19, .int 0, .int 0, .int 0, .int 0])), (x1, .inr (11, [.ref x2, .int 0, .ref x3, .int 0, .ref x4, .ref x5, .int 1, .ref x6, .ref x7, .int 0]))] sz) := by
  refine Met.ofW (cc := cX3_beginWithExternals) (maxL := 3) (ret := none) (by decide) rfl ?_
  intro p e s m args below meth c s₁ B hml hv
  obtain ⟨rfl, hsz, hP, hK, hD0, hE⟩ := hv
  have hx := B.exec
  have hb := B.bytes
  have hr := B.returns
  have hts := atoms_spec (ws := vs_k_X3_beginWithExternals) B.pre
  have hown : s.vm.findClass RX3 = some m.cls := findClass_of_methodNamed B.named
  have hlocks := B.notSynchronized
  subst hsz
  have hD := hD0.self (sz := s.heap.size)
  generalize hAe : va_A [(x8, .inr (8, [.ref x1, .ref x9, .ref x10, .ref x12, .ref x14, .int 0, .ref x15, .ref x16, .ref x17, .int 0, .ref x18, .ref x19, .int 0, .int 0, .int 0, .int 0])), (x1, .inr (11, [.ref x2, .int 0, .ref x3, .int 0, .ref x4, .ref x5, .int 1, .ref x6, .ref x7, .int 0]))] s.heap.size = A at hD hE ⊢
  have hA : ∀ q : Nat, s.heap.size ≤ q → A q := fun q h => by rw [← hAe]; exact Or.inr h
  have hS : va_S A s.heap s.heap [] := va_S.rf
  have hP : va_P D vwCl [(x8, .inr (8, [.ref x1, .ref x9, .ref x10, .ref x12, .ref x14, .int 0, .ref x15, .ref x16, .ref x17, .int 0, .ref x18, .ref x19, .int 0, .int 0, .int 0, .int 0])), (x1, .inr (11, [.ref x2, .int 0, .ref x3, .int 0, .ref x4, .ref x5, .int 1, .ref x6, .ref x7, .int 0]))] s.heap := hP
  have hl := lv_entry ([.ref x8]) (n := 3) (Nat.le_of_ble_eq_true rfl)
  rw [lg_entry_eq]
  generalize (lg_sl ([.ref x8]) ++ List.replicate (3 - (lg_sl ([.ref x8])).length) Slot.unset).toArray = ls at hl ⊢
  have hl : lv_has ls 3 [(0, .ref x8)] := hl
  refine lv_iconst (v := 0) hx hb dX3_beginWithExternals_0 (by decide) ?_
  refine lv_istore_n (lv' := [(1, .int 0), (0, .ref x8)]) hx hb dX3_beginWithExternals_1 rfl hl (by decide) rfl (fun ls hl => ?_)
  refine lv_iload_n hx hb dX3_beginWithExternals_2 rfl (lv_at hl 0 rfl) ?_
  refine lv_aload_n hx hb dX3_beginWithExternals_3 rfl (lv_at hl 1 rfl) ?_
  refine va_get (D := D) (ci := 8) (v := .ref x1) (C := RX3) (T := TX3) (N := 16) hx hb hts iv_k_X3_beginWithExternals_X3 hown hK hP 0 rfl rfl 0 (by decide) (hts (.fieldLink RX3 47 "AnswerFold$Grounding" "program" "LAnswerFold$Program;") (by decide +kernel)) (fun _ h9 => h9) rfl dX3_beginWithExternals_4 ?_
  refine va_getN (D := D) (ci := 11) (v := .int 0) (C := RX6) (T := TX6) (N := 10) hx hb hts iv_k_X3_beginWithExternals_X6 hown hK hP 1 rfl rfl 9 (by decide) (hE.at (.fieldLinkNest "AnswerFold$Grounding" 74 "AnswerFold$Program" "externalCount" "I" "AnswerFold") (by decide +kernel)) (fun _ h9 => h9) rfl dX3_beginWithExternals_7 ?_
  refine lv_icmp_ge (tgt := 78) hx hb dX3_beginWithExternals_10 (by decide) (fun _ => ?_) (fun c0 => absurd (by decide) c0)
  have hP9 := hP.sub (ws' := [(x8, .inr (8, [.ref x1, .ref x9, .ref x10, .ref x12, .ref x14, .int 0, .ref x15, .ref x16, .ref x17, .int 0, .ref x18, .ref x19, .int 0, .int 0, .int 0, .int 0])), (x1, .inr (11, [.ref x2, .int 0, .ref x3, .int 0, .ref x4, .ref x5, .int 1, .ref x6, .ref x7, .int 0]))]) [0, 1] rfl
  have hD9 := hD.sub (ws' := [(x8, .inr (8, [.ref x1, .ref x9, .ref x10, .ref x12, .ref x14, .int 0, .ref x15, .ref x16, .ref x17, .int 0, .ref x18, .ref x19, .int 0, .int 0, .int 0, .int 0])), (x1, .inr (11, [.ref x2, .int 0, .ref x3, .int 0, .ref x4, .ref x5, .int 1, .ref x6, .ref x7, .int 0]))]) [0, 1] (by decide) rfl
  refine W.widen (k := 0) (n := 0) (Nat.le_of_ble_eq_true rfl) (Nat.le_of_ble_eq_true rfl) ?_
  exact W.vret hx hb hr (fun t ht hW => ⟨⟨[(x8, .inr (8, [.ref x1, .ref x9, .ref x10, .ref x12, .ref x14, .int 0, .ref x15, .ref x16, .ref x17, .int 0, .ref x18, .ref x19, .int 0, .int 0, .int 0, .int 0])), (x1, .inr (11, [.ref x2, .int 0, .ref x3, .int 0, .ref x4, .ref x5, .int 1, .ref x6, .ref x7, .int 0]))], rfl, rfl, wq_B.of ht hP9 hD9⟩, hS.F ht⟩) hS.2.2 dX3_beginWithExternals_78
def vs_k_X3_rulesNeeding : List Cond := .code yX3_rulesNeeding cX3_rulesNeeding 5 (some .int) :: ([.fieldLink RX3 47 "AnswerFold$Grounding" "program" "LAnswerFold$Program;"] ++ (u_ws RX3 TX3 16 ++ (u_ws RX6 TX6 10)))
theorem iv_k_X3_rulesNeeding_X3 : ∀ w ∈ u_ws RX3 TX3 16, w ∈ vs_k_X3_rulesNeeding := (fun _ h => List.mem_cons_of_mem _ (List.mem_append_right _ (List.mem_append_left _ h)))
theorem iv_k_X3_rulesNeeding_X6 : ∀ w ∈ u_ws RX6 TX6 10, w ∈ vs_k_X3_rulesNeeding := (fun _ h => List.mem_cons_of_mem _ (List.mem_append_right _ (List.mem_append_right _ (h))))
set_option maxHeartbeats 4000000 in
set_option maxRecDepth 100000 in
theorem k_X3_rulesNeeding (l : Launch) (D : va_G) (ty : Nat → ClassId) (td mi sz : Nat) (x8 : Nat) (x1 : Nat) (x9 : Nat) (x10 : Nat) (x12 : Nat) (x14 : Nat) (x15 : Nat) (x16 : Nat) (x17 : Nat) (x18 : Nat) (x19 : Nat) (x2 : Nat) (x3 : Nat) (x4 : Nat) (x5 : Nat) (x6 : Nat) (x7 : Nat) : Met l yX3_rulesNeeding vs_k_X3_rulesNeeding { frames := 0, cells := 0, slots := 0, locals := 0 } (va_Pc [.ref x8, .int (-1)] (wq_P D ty td mi [(x8, .inr (8, [.ref x1, .ref x9, .ref x10, .ref x12, .ref x14, .int 0, .ref x15, .ref x16, .ref x17, .int 0, .ref x18, .ref x19, .int 0, .int 0, .int 0, .int 0])), (x1, .inr (11, [.ref x2, .int 0, .ref x3, .int 0, .ref x4, .ref x5, .int 1, .ref x6, .ref x7, .int 0]))] sz)) (va_Qi (fun (r : Int32) (u : va_W) => (r = 0 ∧ (u = [(x8, .inr (8, [.ref x1, .ref x9, .ref x10, .ref x12, .ref x14, .int 0, .ref x15, .ref x16, .ref x17, .int 0, .ref x18, .ref x19, .int 0, .int 0, .int 0, .int 0])), (x1, .inr (11, [.ref x2, .int 0, .ref x3, .int 0, .ref x4, .ref x5, .int 1, .ref x6, .ref x7, .int 0]))]))) (wq_B D (va_A [(x8, .inr (8, [.ref x1, .ref x9, .ref x10, .ref x12, .ref x14, .int 0, .ref x15, .ref x16, .ref x17, .int 0, .ref x18, .ref x19, .int 0, .int 0, .int 0, .int 0])), (x1, .inr (11, [.ref x2, .int 0, .ref x3, .int 0, .ref x4, .ref x5, .int 1, .ref x6, .ref x7, .int 0]))] sz)) (va_A [(x8, .inr (8, [.ref x1, .ref x9, .ref x10, .ref x12, .ref x14, .int 0, .ref x15, .ref x16, .ref x17, .int 0, .ref x18, .ref x19, .int 0, .int 0, .int 0, .int 0])), (x1, .inr (11, [.ref x2, .int 0, .ref x3, .int 0, .ref x4, .ref x5, .int 1, .ref x6, .ref x7, .int 0]))] sz)) 0 0 (va_A [(x8, .inr (8, [.ref x1, .ref x9, .ref x10, .ref x12, .ref x14, .int 0, .ref x15, .ref x16, .ref x17, .int 0, .ref x18, .ref x19, .int 0, .int 0, .int 0, .int 0])), (x1, .inr (11, [.ref x2, .int 0, .ref x3, .int 0, .ref x4, .ref x5, .int 1, .ref x6, .ref x7, .int 0]))] sz) := by
  refine Met.ofW (cc := cX3_rulesNeeding) (maxL := 5) (ret := (some .int)) (by decide) rfl ?_
  intro p e s m args below meth c s₁ B hml hv
  obtain ⟨rfl, hsz, hP, hK, hD0, hE⟩ := hv
  have hx := B.exec
  have hb := B.bytes
  have hr := B.returns
  have hts := atoms_spec (ws := vs_k_X3_rulesNeeding) B.pre
  have hown : s.vm.findClass RX3 = some m.cls := findClass_of_methodNamed B.named
  have hlocks := B.notSynchronized
  subst hsz
  have hD := hD0.self (sz := s.heap.size)
  generalize hAe : va_A [(x8, .inr (8, [.ref x1, .ref x9, .ref x10, .ref x12, .ref x14, .int 0, .ref x15, .ref x16, .ref x17, .int 0, .ref x18, .ref x19, .int 0, .int 0, .int 0, .int 0])), (x1, .inr (11, [.ref x2, .int 0, .ref x3, .int 0, .ref x4, .ref x5, .int 1, .ref x6, .ref x7, .int 0]))] s.heap.size = A at hD hE ⊢
  have hA : ∀ q : Nat, s.heap.size ≤ q → A q := fun q h => by rw [← hAe]; exact Or.inr h
  have hS : va_S A s.heap s.heap [] := va_S.rf
  have hP : va_P D vwCl [(x8, .inr (8, [.ref x1, .ref x9, .ref x10, .ref x12, .ref x14, .int 0, .ref x15, .ref x16, .ref x17, .int 0, .ref x18, .ref x19, .int 0, .int 0, .int 0, .int 0])), (x1, .inr (11, [.ref x2, .int 0, .ref x3, .int 0, .ref x4, .ref x5, .int 1, .ref x6, .ref x7, .int 0]))] s.heap := hP
  have hl := lv_entry ([.ref x8, .int (-1)]) (n := 5) (Nat.le_of_ble_eq_true rfl)
  rw [lg_entry_eq]
  generalize (lg_sl ([.ref x8, .int (-1)]) ++ List.replicate (5 - (lg_sl ([.ref x8, .int (-1)])).length) Slot.unset).toArray = ls at hl ⊢
  have hl : lv_has ls 5 [(0, .ref x8), (1, .int (-1))] := hl
  refine lv_iconst (v := 0) hx hb dX3_rulesNeeding_0 (by decide) ?_
  refine lv_istore_n (lv' := [(2, .int 0), (0, .ref x8), (1, .int (-1))]) hx hb dX3_rulesNeeding_1 rfl hl (by decide) rfl (fun ls hl => ?_)
  refine lv_iconst (v := 0) hx hb dX3_rulesNeeding_2 (by decide) ?_
  refine lv_istore_n (lv' := [(3, .int 0), (2, .int 0), (0, .ref x8), (1, .int (-1))]) hx hb dX3_rulesNeeding_3 rfl hl (by decide) rfl (fun ls hl => ?_)
  refine lv_iload_n hx hb dX3_rulesNeeding_4 rfl (lv_at hl 0 rfl) ?_
  refine lv_aload_n hx hb dX3_rulesNeeding_5 rfl (lv_at hl 2 rfl) ?_
  refine va_get (D := D) (ci := 8) (v := .ref x1) (C := RX3) (T := TX3) (N := 16) hx hb hts iv_k_X3_rulesNeeding_X3 hown hK hP 0 rfl rfl 0 (by decide) (hts (.fieldLink RX3 47 "AnswerFold$Grounding" "program" "LAnswerFold$Program;") (by decide +kernel)) (fun _ h9 => h9) rfl dX3_rulesNeeding_6 ?_
  refine va_getN (D := D) (ci := 11) (v := .int 0) (C := RX6) (T := TX6) (N := 10) hx hb hts iv_k_X3_rulesNeeding_X6 hown hK hP 1 rfl rfl 3 (by decide) (hE.at (.fieldLinkNest "AnswerFold$Grounding" 94 "AnswerFold$Program" "ruleCount" "I" "AnswerFold") (by decide +kernel)) (fun _ h9 => h9) rfl dX3_rulesNeeding_9 ?_
  refine lv_icmp_ge (tgt := 85) hx hb dX3_rulesNeeding_12 (by decide) (fun _ => ?_) (fun c0 => absurd (by decide) c0)
  refine lv_iload_n hx hb dX3_rulesNeeding_85 rfl (lv_at hl 1 rfl) ?_
  have hP9 := hP.sub (ws' := [(x8, .inr (8, [.ref x1, .ref x9, .ref x10, .ref x12, .ref x14, .int 0, .ref x15, .ref x16, .ref x17, .int 0, .ref x18, .ref x19, .int 0, .int 0, .int 0, .int 0])), (x1, .inr (11, [.ref x2, .int 0, .ref x3, .int 0, .ref x4, .ref x5, .int 1, .ref x6, .ref x7, .int 0]))]) [0, 1] rfl
  have hD9 := hD.sub (ws' := [(x8, .inr (8, [.ref x1, .ref x9, .ref x10, .ref x12, .ref x14, .int 0, .ref x15, .ref x16, .ref x17, .int 0, .ref x18, .ref x19, .int 0, .int 0, .int 0, .int 0])), (x1, .inr (11, [.ref x2, .int 0, .ref x3, .int 0, .ref x4, .ref x5, .int 1, .ref x6, .ref x7, .int 0]))]) [0, 1] (by decide) rfl
  refine W.widen (k := 0) (n := 0) (Nat.le_of_ble_eq_true rfl) (Nat.le_of_ble_eq_true rfl) ?_
  exact W.iret (v := 0) hx hb hr (fun t ht hW => ⟨⟨0, [(x8, .inr (8, [.ref x1, .ref x9, .ref x10, .ref x12, .ref x14, .int 0, .ref x15, .ref x16, .ref x17, .int 0, .ref x18, .ref x19, .int 0, .int 0, .int 0, .int 0])), (x1, .inr (11, [.ref x2, .int 0, .ref x3, .int 0, .ref x4, .ref x5, .int 1, .ref x6, .ref x7, .int 0]))], rfl, ⟨rfl, rfl⟩, wq_B.of ht hP9 hD9⟩, hS.F ht⟩) hS.2.2 dX3_rulesNeeding_86
def vs_k_X3_spread_0 : List Cond := .code yX3_spread cX3_spread 6 none :: ([.methodLink RX3 91 yX3_rulesNeeding, .instanceMethod yX3_rulesNeeding, .selects RX3 yX3_rulesNeeding yX3_rulesNeeding, .initialized RX3] ++ (vs_k_X3_rulesNeeding))
set_option maxRecDepth 20000 in
theorem gv_k_X3_spread_0_0 : GoodIn vs_k_X3_spread_0 (wsV RX3 91 RX3 yX3_rulesNeeding vs_k_X3_rulesNeeding) := goodIn_app (goodIn_sub (by decide +kernel) (by decide +kernel)) (goodIn_sub (fun _ h => List.mem_cons_of_mem _ (List.mem_append_right _ (h))) (by decide +kernel))
set_option maxHeartbeats 4000000 in
set_option maxRecDepth 100000 in
theorem k_X3_spread_0 (l : Launch) (D : va_G) (ty : Nat → ClassId) (td mi sz : Nat) (x8 : Nat) (x1 : Nat) (x9 : Nat) (x10 : Nat) (x12 : Nat) (x14 : Nat) (x15 : Nat) (x16 : Nat) (x17 : Nat) (x18 : Nat) (x19 : Nat) (x2 : Nat) (x3 : Nat) (x4 : Nat) (x5 : Nat) (x6 : Nat) (x7 : Nat) : Met l yX3_spread vs_k_X3_spread_0 { frames := 1, cells := 0, slots := 0, locals := 24 } (va_Pc [.ref x8] (wq_P D ty td mi [(x8, .inr (8, [.ref x1, .ref x9, .ref x10, .ref x12, .ref x14, .int 0, .ref x15, .ref x16, .ref x17, .int 0, .ref x18, .ref x19, .int 0, .int 0, .int 0, .int 0])), (x1, .inr (11, [.ref x2, .int 0, .ref x3, .int 0, .ref x4, .ref x5, .int 1, .ref x6, .ref x7, .int 0]))] sz)) (va_Qv (fun u : va_W => ((u = [(x8, .inr (8, [.ref x1, .ref x9, .ref x10, .ref x12, .ref x14, .int 0, .ref x15, .ref x16, .ref x17, .int 0, .ref x18, .ref x19, .int 0, .int 0, .int 0, .int 0])), (x1, .inr (11, [.ref x2, .int 0, .ref x3, .int 0, .ref x4, .ref x5, .int 1, .ref x6, .ref x7, .int 0]))]))) (wq_B D (va_A [(x8, .inr (8, [.ref x1, .ref x9, .ref x10, .ref x12, .ref x14, .int 0, .ref x15, .ref x16, .ref x17, .int 0, .ref x18, .ref x19, .int 0, .int 0, .int 0, .int 0])), (x1, .inr (11, [.ref x2, .int 0, .ref x3, .int 0, .ref x4, .ref x5, .int 1, .ref x6, .ref x7, .int 0]))] sz)) (va_A [(x8, .inr (8, [.ref x1, .ref x9, .ref x10, .ref x12, .ref x14, .int 0, .ref x15, .ref x16, .ref x17, .int 0, .ref x18, .ref x19, .int 0, .int 0, .int 0, .int 0])), (x1, .inr (11, [.ref x2, .int 0, .ref x3, .int 0, .ref x4, .ref x5, .int 1, .ref x6, .ref x7, .int 0]))] sz)) 0 0 (va_A [(x8, .inr (8, [.ref x1, .ref x9, .ref x10, .ref x12, .ref x14, .int 0, .ref x15, .ref x16, .ref x17, .int 0, .ref x18, .ref x19, .int 0, .int 0, .int 0, .int 0])), (x1, .inr (11, [.ref x2, .int 0, .ref x3, .int 0, .ref x4, .ref x5, .int 1, .ref x6, .ref x7, .int 0]))] sz) := by
  refine Met.ofW (cc := cX3_spread) (maxL := 6) (ret := none) (by decide) rfl ?_
  intro p e s m args below meth c s₁ B hml hv
  obtain ⟨rfl, hsz, hP, hK, hD0, hE⟩ := hv
  have hx := B.exec
  have hb := B.bytes
  have hr := B.returns
  have hts := atoms_spec (ws := vs_k_X3_spread_0) B.pre
  have hown : s.vm.findClass RX3 = some m.cls := findClass_of_methodNamed B.named
  have hlocks := B.notSynchronized
  subst hsz
  have hD := hD0.self (sz := s.heap.size)
  generalize hAe : va_A [(x8, .inr (8, [.ref x1, .ref x9, .ref x10, .ref x12, .ref x14, .int 0, .ref x15, .ref x16, .ref x17, .int 0, .ref x18, .ref x19, .int 0, .int 0, .int 0, .int 0])), (x1, .inr (11, [.ref x2, .int 0, .ref x3, .int 0, .ref x4, .ref x5, .int 1, .ref x6, .ref x7, .int 0]))] s.heap.size = A at hD hE ⊢
  have hA : ∀ q : Nat, s.heap.size ≤ q → A q := fun q h => by rw [← hAe]; exact Or.inr h
  have hS : va_S A s.heap s.heap [] := va_S.rf
  have hP : va_P D vwCl [(x8, .inr (8, [.ref x1, .ref x9, .ref x10, .ref x12, .ref x14, .int 0, .ref x15, .ref x16, .ref x17, .int 0, .ref x18, .ref x19, .int 0, .int 0, .int 0, .int 0])), (x1, .inr (11, [.ref x2, .int 0, .ref x3, .int 0, .ref x4, .ref x5, .int 1, .ref x6, .ref x7, .int 0]))] s.heap := hP
  have hl := lv_entry ([.ref x8]) (n := 6) (Nat.le_of_ble_eq_true rfl)
  rw [lg_entry_eq]
  generalize (lg_sl ([.ref x8]) ++ List.replicate (6 - (lg_sl ([.ref x8])).length) Slot.unset).toArray = ls at hl ⊢
  have hl : lv_has ls 6 [(0, .ref x8)] := hl
  refine lv_aload_n hx hb dX3_spread_0 rfl (lv_at hl 0 rfl) ?_
  refine lv_iconst (v := (-1)) hx hb dX3_spread_1 (by decide) ?_
  refine wq_i (wc := [(x8, .inr (8, [.ref x1, .ref x9, .ref x10, .ref x12, .ref x14, .int 0, .ref x15, .ref x16, .ref x17, .int 0, .ref x18, .ref x19, .int 0, .int 0, .int 0, .int 0])), (x1, .inr (11, [.ref x2, .int 0, .ref x3, .int 0, .ref x4, .ref x5, .int 1, .ref x6, .ref x7, .int 0]))]) (wr := []) (va_runV (As := [.int (-1)]) (rest := []) ⟨hx, hb, hml, hown, hts⟩ (k_X3_rulesNeeding l D ty td mi s.heap.size x8 x1 x9 x10 x12 x14 x15 x16 x17 x18 x19 x2 x3 x4 x5 x6 x7) (cwV 1 hts gv_k_X3_spread_0_0 rfl rfl rfl (by decide +kernel) ⟨(Nat.le_of_ble_eq_true rfl), (Nat.le_of_ble_eq_true rfl)⟩) (wq_preV hP hD hK hE hS hA [0, 1] rfl (by decide) 0 8 rfl rfl) rfl rfl hl.1 rfl (lv_room (Nat.le_of_ble_eq_true rfl)) dX3_spread_2 ⟨(Nat.le_of_ble_eq_true rfl), (Nat.le_of_ble_eq_true rfl)⟩) hS hA hP hD [0, 1] [] rfl rfl (by decide) (by decide) (fun r u H locs hw hP hD hS => ?_)
  obtain ⟨rfl, rfl⟩ := hw
  have hP : va_P D vwCl [(x8, .inr (8, [.ref x1, .ref x9, .ref x10, .ref x12, .ref x14, .int 0, .ref x15, .ref x16, .ref x17, .int 0, .ref x18, .ref x19, .int 0, .int 0, .int 0, .int 0])), (x1, .inr (11, [.ref x2, .int 0, .ref x3, .int 0, .ref x4, .ref x5, .int 1, .ref x6, .ref x7, .int 0]))] H := hP
  have hD : va_D A [(x8, .inr (8, [.ref x1, .ref x9, .ref x10, .ref x12, .ref x14, .int 0, .ref x15, .ref x16, .ref x17, .int 0, .ref x18, .ref x19, .int 0, .int 0, .int 0, .int 0])), (x1, .inr (11, [.ref x2, .int 0, .ref x3, .int 0, .ref x4, .ref x5, .int 1, .ref x6, .ref x7, .int 0]))] := hD
  refine W.widen (k := 0) (n := 0) (Nat.le_of_ble_eq_true rfl) (Nat.le_of_ble_eq_true rfl) ?_
  refine lv_istore_n (lv' := [(1, .int 0), (0, .ref x8)]) hx hb dX3_spread_5 rfl hl (by decide) rfl (fun ls hl => ?_)
  refine lv_iconst (v := 0) hx hb dX3_spread_6 (by decide) ?_
  refine lv_istore_n (lv' := [(2, .int 0), (1, .int 0), (0, .ref x8)]) hx hb dX3_spread_7 rfl hl (by decide) rfl (fun ls hl => ?_)
  refine lv_iload_n hx hb dX3_spread_8 rfl (lv_at hl 1 rfl) ?_
  refine lv_if_eq (tgt := 147) hx hb dX3_spread_9 (by decide) (fun _ => ?_) (fun c0 => absurd (by decide) c0)
  have hP9 := hP.sub (ws' := [(x8, .inr (8, [.ref x1, .ref x9, .ref x10, .ref x12, .ref x14, .int 0, .ref x15, .ref x16, .ref x17, .int 0, .ref x18, .ref x19, .int 0, .int 0, .int 0, .int 0])), (x1, .inr (11, [.ref x2, .int 0, .ref x3, .int 0, .ref x4, .ref x5, .int 1, .ref x6, .ref x7, .int 0]))]) [0, 1] rfl
  have hD9 := hD.sub (ws' := [(x8, .inr (8, [.ref x1, .ref x9, .ref x10, .ref x12, .ref x14, .int 0, .ref x15, .ref x16, .ref x17, .int 0, .ref x18, .ref x19, .int 0, .int 0, .int 0, .int 0])), (x1, .inr (11, [.ref x2, .int 0, .ref x3, .int 0, .ref x4, .ref x5, .int 1, .ref x6, .ref x7, .int 0]))]) [0, 1] (by decide) rfl
  refine W.widen (k := 0) (n := 0) (Nat.le_of_ble_eq_true rfl) (Nat.le_of_ble_eq_true rfl) ?_
  exact W.vret hx hb hr (fun t ht hW => ⟨⟨[(x8, .inr (8, [.ref x1, .ref x9, .ref x10, .ref x12, .ref x14, .int 0, .ref x15, .ref x16, .ref x17, .int 0, .ref x18, .ref x19, .int 0, .int 0, .int 0, .int 0])), (x1, .inr (11, [.ref x2, .int 0, .ref x3, .int 0, .ref x4, .ref x5, .int 1, .ref x6, .ref x7, .int 0]))], rfl, rfl, wq_B.of ht hP9 hD9⟩, hS.F ht⟩) hS.2.2 dX3_spread_147
def vs_k_X3_rulesNeeding_1 : List Cond := .code yX3_rulesNeeding cX3_rulesNeeding 5 (some .int) :: ([.fieldLink RX3 47 "AnswerFold$Grounding" "program" "LAnswerFold$Program;"] ++ (u_ws RX3 TX3 16 ++ (u_ws RX6 TX6 10)))
theorem iv_k_X3_rulesNeeding_1_X3 : ∀ w ∈ u_ws RX3 TX3 16, w ∈ vs_k_X3_rulesNeeding_1 := (fun _ h => List.mem_cons_of_mem _ (List.mem_append_right _ (List.mem_append_left _ h)))
theorem iv_k_X3_rulesNeeding_1_X6 : ∀ w ∈ u_ws RX6 TX6 10, w ∈ vs_k_X3_rulesNeeding_1 := (fun _ h => List.mem_cons_of_mem _ (List.mem_append_right _ (List.mem_append_right _ (h))))
set_option maxHeartbeats 4000000 in
set_option maxRecDepth 100000 in
theorem k_X3_rulesNeeding_1 (l : Launch) (D : va_G) (ty : Nat → ClassId) (td mi sz : Nat) (x8 : Nat) (x1 : Nat) (x9 : Nat) (x10 : Nat) (x12 : Nat) (x14 : Nat) (x15 : Nat) (x16 : Nat) (x17 : Nat) (x18 : Nat) (x19 : Nat) (x2 : Nat) (x3 : Nat) (x4 : Nat) (x5 : Nat) (x6 : Nat) (x7 : Nat) : Met l yX3_rulesNeeding vs_k_X3_rulesNeeding_1 { frames := 0, cells := 0, slots := 0, locals := 0 } (va_Pc [.ref x8, .int (-1)] (wq_P D ty td mi [(x8, .inr (8, [.ref x1, .ref x9, .ref x10, .ref x12, .ref x14, .int 0, .ref x15, .ref x16, .ref x17, .int 0, .ref x18, .ref x19, .int 0, .int 0, .int 1, .int 0])), (x1, .inr (11, [.ref x2, .int 0, .ref x3, .int 0, .ref x4, .ref x5, .int 1, .ref x6, .ref x7, .int 0]))] sz)) (va_Qi (fun (r : Int32) (u : va_W) => (r = 0 ∧ (u = [(x8, .inr (8, [.ref x1, .ref x9, .ref x10, .ref x12, .ref x14, .int 0, .ref x15, .ref x16, .ref x17, .int 0, .ref x18, .ref x19, .int 0, .int 0, .int 1, .int 0])), (x1, .inr (11, [.ref x2, .int 0, .ref x3, .int 0, .ref x4, .ref x5, .int 1, .ref x6, .ref x7, .int 0]))]))) (wq_B D (va_A [(x8, .inr (8, [.ref x1, .ref x9, .ref x10, .ref x12, .ref x14, .int 0, .ref x15, .ref x16, .ref x17, .int 0, .ref x18, .ref x19, .int 0, .int 0, .int 1, .int 0])), (x1, .inr (11, [.ref x2, .int 0, .ref x3, .int 0, .ref x4, .ref x5, .int 1, .ref x6, .ref x7, .int 0]))] sz)) (va_A [(x8, .inr (8, [.ref x1, .ref x9, .ref x10, .ref x12, .ref x14, .int 0, .ref x15, .ref x16, .ref x17, .int 0, .ref x18, .ref x19, .int 0, .int 0, .int 1, .int 0])), (x1, .inr (11, [.ref x2, .int 0, .ref x3, .int 0, .ref x4, .ref x5, .int 1, .ref x6, .ref x7, .int 0]))] sz)) 0 0 (va_A [(x8, .inr (8, [.ref x1, .ref x9, .ref x10, .ref x12, .ref x14, .int 0, .ref x15, .ref x16, .ref x17, .int 0, .ref x18, .ref x19, .int 0, .int 0, .int 1, .int 0])), (x1, .inr (11, [.ref x2, .int 0, .ref x3, .int 0, .ref x4, .ref x5, .int 1, .ref x6, .ref x7, .int 0]))] sz) := by
  refine Met.ofW (cc := cX3_rulesNeeding) (maxL := 5) (ret := (some .int)) (by decide) rfl ?_
  intro p e s m args below meth c s₁ B hml hv
  obtain ⟨rfl, hsz, hP, hK, hD0, hE⟩ := hv
  have hx := B.exec
  have hb := B.bytes
  have hr := B.returns
  have hts := atoms_spec (ws := vs_k_X3_rulesNeeding_1) B.pre
  have hown : s.vm.findClass RX3 = some m.cls := findClass_of_methodNamed B.named
  have hlocks := B.notSynchronized
  subst hsz
  have hD := hD0.self (sz := s.heap.size)
  generalize hAe : va_A [(x8, .inr (8, [.ref x1, .ref x9, .ref x10, .ref x12, .ref x14, .int 0, .ref x15, .ref x16, .ref x17, .int 0, .ref x18, .ref x19, .int 0, .int 0, .int 1, .int 0])), (x1, .inr (11, [.ref x2, .int 0, .ref x3, .int 0, .ref x4, .ref x5, .int 1, .ref x6, .ref x7, .int 0]))] s.heap.size = A at hD hE ⊢
  have hA : ∀ q : Nat, s.heap.size ≤ q → A q := fun q h => by rw [← hAe]; exact Or.inr h
  have hS : va_S A s.heap s.heap [] := va_S.rf
  have hP : va_P D vwCl [(x8, .inr (8, [.ref x1, .ref x9, .ref x10, .ref x12, .ref x14, .int 0, .ref x15, .ref x16, .ref x17, .int 0, .ref x18, .ref x19, .int 0, .int 0, .int 1, .int 0])), (x1, .inr (11, [.ref x2, .int 0, .ref x3, .int 0, .ref x4, .ref x5, .int 1, .ref x6, .ref x7, .int 0]))] s.heap := hP
  have hl := lv_entry ([.ref x8, .int (-1)]) (n := 5) (Nat.le_of_ble_eq_true rfl)
  rw [lg_entry_eq]
  generalize (lg_sl ([.ref x8, .int (-1)]) ++ List.replicate (5 - (lg_sl ([.ref x8, .int (-1)])).length) Slot.unset).toArray = ls at hl ⊢
  have hl : lv_has ls 5 [(0, .ref x8), (1, .int (-1))] := hl
  refine lv_iconst (v := 0) hx hb dX3_rulesNeeding_0 (by decide) ?_
  refine lv_istore_n (lv' := [(2, .int 0), (0, .ref x8), (1, .int (-1))]) hx hb dX3_rulesNeeding_1 rfl hl (by decide) rfl (fun ls hl => ?_)
  refine lv_iconst (v := 0) hx hb dX3_rulesNeeding_2 (by decide) ?_
  refine lv_istore_n (lv' := [(3, .int 0), (2, .int 0), (0, .ref x8), (1, .int (-1))]) hx hb dX3_rulesNeeding_3 rfl hl (by decide) rfl (fun ls hl => ?_)
  refine lv_iload_n hx hb dX3_rulesNeeding_4 rfl (lv_at hl 0 rfl) ?_
  refine lv_aload_n hx hb dX3_rulesNeeding_5 rfl (lv_at hl 2 rfl) ?_
  refine va_get (D := D) (ci := 8) (v := .ref x1) (C := RX3) (T := TX3) (N := 16) hx hb hts iv_k_X3_rulesNeeding_1_X3 hown hK hP 0 rfl rfl 0 (by decide) (hts (.fieldLink RX3 47 "AnswerFold$Grounding" "program" "LAnswerFold$Program;") (by decide +kernel)) (fun _ h9 => h9) rfl dX3_rulesNeeding_6 ?_
  refine va_getN (D := D) (ci := 11) (v := .int 0) (C := RX6) (T := TX6) (N := 10) hx hb hts iv_k_X3_rulesNeeding_1_X6 hown hK hP 1 rfl rfl 3 (by decide) (hE.at (.fieldLinkNest "AnswerFold$Grounding" 94 "AnswerFold$Program" "ruleCount" "I" "AnswerFold") (by decide +kernel)) (fun _ h9 => h9) rfl dX3_rulesNeeding_9 ?_
  refine lv_icmp_ge (tgt := 85) hx hb dX3_rulesNeeding_12 (by decide) (fun _ => ?_) (fun c0 => absurd (by decide) c0)
  refine lv_iload_n hx hb dX3_rulesNeeding_85 rfl (lv_at hl 1 rfl) ?_
  have hP9 := hP.sub (ws' := [(x8, .inr (8, [.ref x1, .ref x9, .ref x10, .ref x12, .ref x14, .int 0, .ref x15, .ref x16, .ref x17, .int 0, .ref x18, .ref x19, .int 0, .int 0, .int 1, .int 0])), (x1, .inr (11, [.ref x2, .int 0, .ref x3, .int 0, .ref x4, .ref x5, .int 1, .ref x6, .ref x7, .int 0]))]) [0, 1] rfl
  have hD9 := hD.sub (ws' := [(x8, .inr (8, [.ref x1, .ref x9, .ref x10, .ref x12, .ref x14, .int 0, .ref x15, .ref x16, .ref x17, .int 0, .ref x18, .ref x19, .int 0, .int 0, .int 1, .int 0])), (x1, .inr (11, [.ref x2, .int 0, .ref x3, .int 0, .ref x4, .ref x5, .int 1, .ref x6, .ref x7, .int 0]))]) [0, 1] (by decide) rfl
  refine W.widen (k := 0) (n := 0) (Nat.le_of_ble_eq_true rfl) (Nat.le_of_ble_eq_true rfl) ?_
  exact W.iret (v := 0) hx hb hr (fun t ht hW => ⟨⟨0, [(x8, .inr (8, [.ref x1, .ref x9, .ref x10, .ref x12, .ref x14, .int 0, .ref x15, .ref x16, .ref x17, .int 0, .ref x18, .ref x19, .int 0, .int 0, .int 1, .int 0])), (x1, .inr (11, [.ref x2, .int 0, .ref x3, .int 0, .ref x4, .ref x5, .int 1, .ref x6, .ref x7, .int 0]))], rfl, ⟨rfl, rfl⟩, wq_B.of ht hP9 hD9⟩, hS.F ht⟩) hS.2.2 dX3_rulesNeeding_86
def vs_k_X3_spread_1 : List Cond := .code yX3_spread cX3_spread 6 none :: ([.methodLink RX3 91 yX3_rulesNeeding, .instanceMethod yX3_rulesNeeding, .selects RX3 yX3_rulesNeeding yX3_rulesNeeding, .initialized RX3] ++ (vs_k_X3_rulesNeeding_1))
set_option maxRecDepth 20000 in
theorem gv_k_X3_spread_1_0 : GoodIn vs_k_X3_spread_1 (wsV RX3 91 RX3 yX3_rulesNeeding vs_k_X3_rulesNeeding_1) := goodIn_app (goodIn_sub (by decide +kernel) (by decide +kernel)) (goodIn_sub (fun _ h => List.mem_cons_of_mem _ (List.mem_append_right _ (h))) (by decide +kernel))
set_option maxHeartbeats 4000000 in
set_option maxRecDepth 100000 in
theorem k_X3_spread_1 (l : Launch) (D : va_G) (ty : Nat → ClassId) (td mi sz : Nat) (x8 : Nat) (x1 : Nat) (x9 : Nat) (x10 : Nat) (x12 : Nat) (x14 : Nat) (x15 : Nat) (x16 : Nat) (x17 : Nat) (x18 : Nat) (x19 : Nat) (x2 : Nat) (x3 : Nat) (x4 : Nat) (x5 : Nat) (x6 : Nat) (x7 : Nat) : Met l yX3_spread vs_k_X3_spread_1 { frames := 1, cells := 0, slots := 0, locals := 24 } (va_Pc [.ref x8] (wq_P D ty td mi [(x8, .inr (8, [.ref x1, .ref x9, .ref x10, .ref x12, .ref x14, .int 0, .ref x15, .ref x16, .ref x17, .int 0, .ref x18, .ref x19, .int 0, .int 0, .int 1, .int 0])), (x1, .inr (11, [.ref x2, .int 0, .ref x3, .int 0, .ref x4, .ref x5, .int 1, .ref x6, .ref x7, .int 0]))] sz)) (va_Qv (fun u : va_W => ((u = [(x8, .inr (8, [.ref x1, .ref x9, .ref x10, .ref x12, .ref x14, .int 0, .ref x15, .ref x16, .ref x17, .int 0, .ref x18, .ref x19, .int 0, .int 0, .int 1, .int 0])), (x1, .inr (11, [.ref x2, .int 0, .ref x3, .int 0, .ref x4, .ref x5, .int 1, .ref x6, .ref x7, .int 0]))]))) (wq_B D (va_A [(x8, .inr (8, [.ref x1, .ref x9, .ref x10, .ref x12, .ref x14, .int 0, .ref x15, .ref x16, .ref x17, .int 0, .ref x18, .ref x19, .int 0, .int 0, .int 1, .int 0])), (x1, .inr (11, [.ref x2, .int 0, .ref x3, .int 0, .ref x4, .ref x5, .int 1, .ref x6, .ref x7, .int 0]))] sz)) (va_A [(x8, .inr (8, [.ref x1, .ref x9, .ref x10, .ref x12, .ref x14, .int 0, .ref x15, .ref x16, .ref x17, .int 0, .ref x18, .ref x19, .int 0, .int 0, .int 1, .int 0])), (x1, .inr (11, [.ref x2, .int 0, .ref x3, .int 0, .ref x4, .ref x5, .int 1, .ref x6, .ref x7, .int 0]))] sz)) 0 0 (va_A [(x8, .inr (8, [.ref x1, .ref x9, .ref x10, .ref x12, .ref x14, .int 0, .ref x15, .ref x16, .ref x17, .int 0, .ref x18, .ref x19, .int 0, .int 0, .int 1, .int 0])), (x1, .inr (11, [.ref x2, .int 0, .ref x3, .int 0, .ref x4, .ref x5, .int 1, .ref x6, .ref x7, .int 0]))] sz) := by
  refine Met.ofW (cc := cX3_spread) (maxL := 6) (ret := none) (by decide) rfl ?_
  intro p e s m args below meth c s₁ B hml hv
  obtain ⟨rfl, hsz, hP, hK, hD0, hE⟩ := hv
  have hx := B.exec
  have hb := B.bytes
  have hr := B.returns
  have hts := atoms_spec (ws := vs_k_X3_spread_1) B.pre
  have hown : s.vm.findClass RX3 = some m.cls := findClass_of_methodNamed B.named
  have hlocks := B.notSynchronized
  subst hsz
  have hD := hD0.self (sz := s.heap.size)
  generalize hAe : va_A [(x8, .inr (8, [.ref x1, .ref x9, .ref x10, .ref x12, .ref x14, .int 0, .ref x15, .ref x16, .ref x17, .int 0, .ref x18, .ref x19, .int 0, .int 0, .int 1, .int 0])), (x1, .inr (11, [.ref x2, .int 0, .ref x3, .int 0, .ref x4, .ref x5, .int 1, .ref x6, .ref x7, .int 0]))] s.heap.size = A at hD hE ⊢
  have hA : ∀ q : Nat, s.heap.size ≤ q → A q := fun q h => by rw [← hAe]; exact Or.inr h
  have hS : va_S A s.heap s.heap [] := va_S.rf
  have hP : va_P D vwCl [(x8, .inr (8, [.ref x1, .ref x9, .ref x10, .ref x12, .ref x14, .int 0, .ref x15, .ref x16, .ref x17, .int 0, .ref x18, .ref x19, .int 0, .int 0, .int 1, .int 0])), (x1, .inr (11, [.ref x2, .int 0, .ref x3, .int 0, .ref x4, .ref x5, .int 1, .ref x6, .ref x7, .int 0]))] s.heap := hP
  have hl := lv_entry ([.ref x8]) (n := 6) (Nat.le_of_ble_eq_true rfl)
  rw [lg_entry_eq]
  generalize (lg_sl ([.ref x8]) ++ List.replicate (6 - (lg_sl ([.ref x8])).length) Slot.unset).toArray = ls at hl ⊢
  have hl : lv_has ls 6 [(0, .ref x8)] := hl
  refine lv_aload_n hx hb dX3_spread_0 rfl (lv_at hl 0 rfl) ?_
  refine lv_iconst (v := (-1)) hx hb dX3_spread_1 (by decide) ?_
  refine wq_i (wc := [(x8, .inr (8, [.ref x1, .ref x9, .ref x10, .ref x12, .ref x14, .int 0, .ref x15, .ref x16, .ref x17, .int 0, .ref x18, .ref x19, .int 0, .int 0, .int 1, .int 0])), (x1, .inr (11, [.ref x2, .int 0, .ref x3, .int 0, .ref x4, .ref x5, .int 1, .ref x6, .ref x7, .int 0]))]) (wr := []) (va_runV (As := [.int (-1)]) (rest := []) ⟨hx, hb, hml, hown, hts⟩ (k_X3_rulesNeeding_1 l D ty td mi s.heap.size x8 x1 x9 x10 x12 x14 x15 x16 x17 x18 x19 x2 x3 x4 x5 x6 x7) (cwV 1 hts gv_k_X3_spread_1_0 rfl rfl rfl (by decide +kernel) ⟨(Nat.le_of_ble_eq_true rfl), (Nat.le_of_ble_eq_true rfl)⟩) (wq_preV hP hD hK hE hS hA [0, 1] rfl (by decide) 0 8 rfl rfl) rfl rfl hl.1 rfl (lv_room (Nat.le_of_ble_eq_true rfl)) dX3_spread_2 ⟨(Nat.le_of_ble_eq_true rfl), (Nat.le_of_ble_eq_true rfl)⟩) hS hA hP hD [0, 1] [] rfl rfl (by decide) (by decide) (fun r u H locs hw hP hD hS => ?_)
  obtain ⟨rfl, rfl⟩ := hw
  have hP : va_P D vwCl [(x8, .inr (8, [.ref x1, .ref x9, .ref x10, .ref x12, .ref x14, .int 0, .ref x15, .ref x16, .ref x17, .int 0, .ref x18, .ref x19, .int 0, .int 0, .int 1, .int 0])), (x1, .inr (11, [.ref x2, .int 0, .ref x3, .int 0, .ref x4, .ref x5, .int 1, .ref x6, .ref x7, .int 0]))] H := hP
  have hD : va_D A [(x8, .inr (8, [.ref x1, .ref x9, .ref x10, .ref x12, .ref x14, .int 0, .ref x15, .ref x16, .ref x17, .int 0, .ref x18, .ref x19, .int 0, .int 0, .int 1, .int 0])), (x1, .inr (11, [.ref x2, .int 0, .ref x3, .int 0, .ref x4, .ref x5, .int 1, .ref x6, .ref x7, .int 0]))] := hD
  refine W.widen (k := 0) (n := 0) (Nat.le_of_ble_eq_true rfl) (Nat.le_of_ble_eq_true rfl) ?_
  refine lv_istore_n (lv' := [(1, .int 0), (0, .ref x8)]) hx hb dX3_spread_5 rfl hl (by decide) rfl (fun ls hl => ?_)
  refine lv_iconst (v := 0) hx hb dX3_spread_6 (by decide) ?_
  refine lv_istore_n (lv' := [(2, .int 0), (1, .int 0), (0, .ref x8)]) hx hb dX3_spread_7 rfl hl (by decide) rfl (fun ls hl => ?_)
  refine lv_iload_n hx hb dX3_spread_8 rfl (lv_at hl 1 rfl) ?_
  refine lv_if_eq (tgt := 147) hx hb dX3_spread_9 (by decide) (fun _ => ?_) (fun c0 => absurd (by decide) c0)
  have hP9 := hP.sub (ws' := [(x8, .inr (8, [.ref x1, .ref x9, .ref x10, .ref x12, .ref x14, .int 0, .ref x15, .ref x16, .ref x17, .int 0, .ref x18, .ref x19, .int 0, .int 0, .int 1, .int 0])), (x1, .inr (11, [.ref x2, .int 0, .ref x3, .int 0, .ref x4, .ref x5, .int 1, .ref x6, .ref x7, .int 0]))]) [0, 1] rfl
  have hD9 := hD.sub (ws' := [(x8, .inr (8, [.ref x1, .ref x9, .ref x10, .ref x12, .ref x14, .int 0, .ref x15, .ref x16, .ref x17, .int 0, .ref x18, .ref x19, .int 0, .int 0, .int 1, .int 0])), (x1, .inr (11, [.ref x2, .int 0, .ref x3, .int 0, .ref x4, .ref x5, .int 1, .ref x6, .ref x7, .int 0]))]) [0, 1] (by decide) rfl
  refine W.widen (k := 0) (n := 0) (Nat.le_of_ble_eq_true rfl) (Nat.le_of_ble_eq_true rfl) ?_
  exact W.vret hx hb hr (fun t ht hW => ⟨⟨[(x8, .inr (8, [.ref x1, .ref x9, .ref x10, .ref x12, .ref x14, .int 0, .ref x15, .ref x16, .ref x17, .int 0, .ref x18, .ref x19, .int 0, .int 0, .int 1, .int 0])), (x1, .inr (11, [.ref x2, .int 0, .ref x3, .int 0, .ref x4, .ref x5, .int 1, .ref x6, .ref x7, .int 0]))], rfl, rfl, wq_B.of ht hP9 hD9⟩, hS.F ht⟩) hS.2.2 dX3_spread_147
def vs_k_X3_keepInstances : List Cond := .code yX3_keepInstances cX3_keepInstances 4 none :: ([.fieldLink RX3 132 "AnswerFold$Grounding" "keptCount" "I", .fieldLink RX3 38 "AnswerFold$Grounding" "keptByRule" "[I", .fieldLink RX3 47 "AnswerFold$Grounding" "program" "LAnswerFold$Program;", .methodLink RX3 97 yX6_ruleAt, .instanceMethod yX6_ruleAt, .selects RX6 yX6_ruleAt yX6_ruleAt, .initialized RX6] ++ (u_ws RX3 TX3 16 ++ (vs_k_X6_ruleAt)))
theorem iv_k_X3_keepInstances_X3 : ∀ w ∈ u_ws RX3 TX3 16, w ∈ vs_k_X3_keepInstances := (fun _ h => List.mem_cons_of_mem _ (List.mem_append_right _ (List.mem_append_left _ h)))
set_option maxRecDepth 20000 in
theorem gv_k_X3_keepInstances_0 : GoodIn vs_k_X3_keepInstances (wsV RX3 97 RX6 yX6_ruleAt vs_k_X6_ruleAt) := goodIn_app (goodIn_sub (by decide +kernel) (by decide +kernel)) (goodIn_sub (fun _ h => List.mem_cons_of_mem _ (List.mem_append_right _ (List.mem_append_right _ (h)))) (by decide +kernel))
set_option maxRecDepth 20000 in
theorem gv_k_X3_keepInstances_1 : GoodIn vs_k_X3_keepInstances (wsV RX3 97 RX6 yX6_ruleAt vs_k_X6_ruleAt) := goodIn_app (goodIn_sub (by decide +kernel) (by decide +kernel)) (goodIn_sub (fun _ h => List.mem_cons_of_mem _ (List.mem_append_right _ (List.mem_append_right _ (h)))) (by decide +kernel))
set_option maxRecDepth 20000 in
theorem gv_k_X3_keepInstances_2 : GoodIn vs_k_X3_keepInstances (wsV RX3 97 RX6 yX6_ruleAt vs_k_X6_ruleAt) := goodIn_app (goodIn_sub (by decide +kernel) (by decide +kernel)) (goodIn_sub (fun _ h => List.mem_cons_of_mem _ (List.mem_append_right _ (List.mem_append_right _ (h)))) (by decide +kernel))
set_option maxRecDepth 20000 in
theorem gv_k_X3_keepInstances_3 : GoodIn vs_k_X3_keepInstances (wsV RX3 97 RX6 yX6_ruleAt vs_k_X6_ruleAt) := goodIn_app (goodIn_sub (by decide +kernel) (by decide +kernel)) (goodIn_sub (fun _ h => List.mem_cons_of_mem _ (List.mem_append_right _ (List.mem_append_right _ (h)))) (by decide +kernel))
set_option maxRecDepth 20000 in
theorem gv_k_X3_keepInstances_4 : GoodIn vs_k_X3_keepInstances (wsV RX3 97 RX6 yX6_ruleAt vs_k_X6_ruleAt) := goodIn_app (goodIn_sub (by decide +kernel) (by decide +kernel)) (goodIn_sub (fun _ h => List.mem_cons_of_mem _ (List.mem_append_right _ (List.mem_append_right _ (h)))) (by decide +kernel))
set_option maxRecDepth 20000 in
theorem gv_k_X3_keepInstances_5 : GoodIn vs_k_X3_keepInstances (wsV RX3 97 RX6 yX6_ruleAt vs_k_X6_ruleAt) := goodIn_app (goodIn_sub (by decide +kernel) (by decide +kernel)) (goodIn_sub (fun _ h => List.mem_cons_of_mem _ (List.mem_append_right _ (List.mem_append_right _ (h)))) (by decide +kernel))
set_option maxRecDepth 20000 in
theorem gv_k_X3_keepInstances_6 : GoodIn vs_k_X3_keepInstances (wsV RX3 97 RX6 yX6_ruleAt vs_k_X6_ruleAt) := goodIn_app (goodIn_sub (by decide +kernel) (by decide +kernel)) (goodIn_sub (fun _ h => List.mem_cons_of_mem _ (List.mem_append_right _ (List.mem_append_right _ (h)))) (by decide +kernel))
set_option maxRecDepth 20000 in
theorem gv_k_X3_keepInstances_7 : GoodIn vs_k_X3_keepInstances (wsV RX3 97 RX6 yX6_ruleAt vs_k_X6_ruleAt) := goodIn_app (goodIn_sub (by decide +kernel) (by decide +kernel)) (goodIn_sub (fun _ h => List.mem_cons_of_mem _ (List.mem_append_right _ (List.mem_append_right _ (h)))) (by decide +kernel))
set_option maxRecDepth 20000 in
theorem gv_k_X3_keepInstances_8 : GoodIn vs_k_X3_keepInstances (wsV RX3 97 RX6 yX6_ruleAt vs_k_X6_ruleAt) := goodIn_app (goodIn_sub (by decide +kernel) (by decide +kernel)) (goodIn_sub (fun _ h => List.mem_cons_of_mem _ (List.mem_append_right _ (List.mem_append_right _ (h)))) (by decide +kernel))
set_option maxRecDepth 20000 in
theorem gv_k_X3_keepInstances_9 : GoodIn vs_k_X3_keepInstances (wsV RX3 97 RX6 yX6_ruleAt vs_k_X6_ruleAt) := goodIn_app (goodIn_sub (by decide +kernel) (by decide +kernel)) (goodIn_sub (fun _ h => List.mem_cons_of_mem _ (List.mem_append_right _ (List.mem_append_right _ (h)))) (by decide +kernel))
set_option maxRecDepth 20000 in
theorem gv_k_X3_keepInstances_10 : GoodIn vs_k_X3_keepInstances (wsV RX3 97 RX6 yX6_ruleAt vs_k_X6_ruleAt) := goodIn_app (goodIn_sub (by decide +kernel) (by decide +kernel)) (goodIn_sub (fun _ h => List.mem_cons_of_mem _ (List.mem_append_right _ (List.mem_append_right _ (h)))) (by decide +kernel))
set_option maxRecDepth 20000 in
theorem gv_k_X3_keepInstances_11 : GoodIn vs_k_X3_keepInstances (wsV RX3 97 RX6 yX6_ruleAt vs_k_X6_ruleAt) := goodIn_app (goodIn_sub (by decide +kernel) (by decide +kernel)) (goodIn_sub (fun _ h => List.mem_cons_of_mem _ (List.mem_append_right _ (List.mem_append_right _ (h)))) (by decide +kernel))
set_option maxRecDepth 20000 in
theorem gv_k_X3_keepInstances_12 : GoodIn vs_k_X3_keepInstances (wsV RX3 97 RX6 yX6_ruleAt vs_k_X6_ruleAt) := goodIn_app (goodIn_sub (by decide +kernel) (by decide +kernel)) (goodIn_sub (fun _ h => List.mem_cons_of_mem _ (List.mem_append_right _ (List.mem_append_right _ (h)))) (by decide +kernel))
set_option maxRecDepth 20000 in
theorem gv_k_X3_keepInstances_13 : GoodIn vs_k_X3_keepInstances (wsV RX3 97 RX6 yX6_ruleAt vs_k_X6_ruleAt) := goodIn_app (goodIn_sub (by decide +kernel) (by decide +kernel)) (goodIn_sub (fun _ h => List.mem_cons_of_mem _ (List.mem_append_right _ (List.mem_append_right _ (h)))) (by decide +kernel))
set_option maxRecDepth 20000 in
theorem gv_k_X3_keepInstances_14 : GoodIn vs_k_X3_keepInstances (wsV RX3 97 RX6 yX6_ruleAt vs_k_X6_ruleAt) := goodIn_app (goodIn_sub (by decide +kernel) (by decide +kernel)) (goodIn_sub (fun _ h => List.mem_cons_of_mem _ (List.mem_append_right _ (List.mem_append_right _ (h)))) (by decide +kernel))
set_option maxRecDepth 20000 in
theorem gv_k_X3_keepInstances_15 : GoodIn vs_k_X3_keepInstances (wsV RX3 97 RX6 yX6_ruleAt vs_k_X6_ruleAt) := goodIn_app (goodIn_sub (by decide +kernel) (by decide +kernel)) (goodIn_sub (fun _ h => List.mem_cons_of_mem _ (List.mem_append_right _ (List.mem_append_right _ (h)))) (by decide +kernel))
set_option maxRecDepth 20000 in
theorem gv_k_X3_keepInstances_16 : GoodIn vs_k_X3_keepInstances (wsV RX3 97 RX6 yX6_ruleAt vs_k_X6_ruleAt) := goodIn_app (goodIn_sub (by decide +kernel) (by decide +kernel)) (goodIn_sub (fun _ h => List.mem_cons_of_mem _ (List.mem_append_right _ (List.mem_append_right _ (h)))) (by decide +kernel))
set_option maxRecDepth 20000 in
theorem gv_k_X3_keepInstances_17 : GoodIn vs_k_X3_keepInstances (wsV RX3 97 RX6 yX6_ruleAt vs_k_X6_ruleAt) := goodIn_app (goodIn_sub (by decide +kernel) (by decide +kernel)) (goodIn_sub (fun _ h => List.mem_cons_of_mem _ (List.mem_append_right _ (List.mem_append_right _ (h)))) (by decide +kernel))
set_option maxRecDepth 20000 in
theorem gv_k_X3_keepInstances_18 : GoodIn vs_k_X3_keepInstances (wsV RX3 97 RX6 yX6_ruleAt vs_k_X6_ruleAt) := goodIn_app (goodIn_sub (by decide +kernel) (by decide +kernel)) (goodIn_sub (fun _ h => List.mem_cons_of_mem _ (List.mem_append_right _ (List.mem_append_right _ (h)))) (by decide +kernel))
set_option maxRecDepth 20000 in
theorem gv_k_X3_keepInstances_19 : GoodIn vs_k_X3_keepInstances (wsV RX3 97 RX6 yX6_ruleAt vs_k_X6_ruleAt) := goodIn_app (goodIn_sub (by decide +kernel) (by decide +kernel)) (goodIn_sub (fun _ h => List.mem_cons_of_mem _ (List.mem_append_right _ (List.mem_append_right _ (h)))) (by decide +kernel))
set_option maxHeartbeats 4000000 in
set_option maxRecDepth 100000 in
theorem k_X3_keepInstances (l : Launch) (D : va_G) (ty : Nat → ClassId) (td mi sz : Nat) (x8 : Nat) (x1 : Nat) (x9 : Nat) (x10 : Nat) (x12 : Nat) (x14 : Nat) (x15 : Nat) (x16 : Nat) (x17 : Nat) (x18 : Nat) (x19 : Nat) (x2 : Nat) (x3 : Nat) (x4 : Nat) (x5 : Nat) (x6 : Nat) (x7 : Nat) : Met l yX3_keepInstances vs_k_X3_keepInstances { frames := 1, cells := 0, slots := 0, locals := 21 } (va_Pc [.ref x8] (wq_P D ty td mi [(x8, .inr (8, [.ref x1, .ref x9, .ref x10, .ref x12, .ref x14, .int 0, .ref x15, .ref x16, .ref x17, .int 0, .ref x18, .ref x19, .int 0, .int 0, .int 2, .int 0])), (x1, .inr (11, [.ref x2, .int 0, .ref x3, .int 0, .ref x4, .ref x5, .int 1, .ref x6, .ref x7, .int 0])), (x17, .inl (ty 0, 20, .inl (fun _ => 0)))] sz)) (va_Qv (fun u : va_W => ((u = [(x8, .inr (8, [.ref x1, .ref x9, .ref x10, .ref x12, .ref x14, .int 0, .ref x15, .ref x16, .ref x17, .int 0, .ref x18, .ref x19, .int 0, .int 0, .int 2, .int 0])), (x17, .inl (ty 0, 20, .inl (fun _ => 0))), (x1, .inr (11, [.ref x2, .int 0, .ref x3, .int 0, .ref x4, .ref x5, .int 1, .ref x6, .ref x7, .int 0]))]))) (wq_B D (va_A [(x8, .inr (8, [.ref x1, .ref x9, .ref x10, .ref x12, .ref x14, .int 0, .ref x15, .ref x16, .ref x17, .int 0, .ref x18, .ref x19, .int 0, .int 0, .int 2, .int 0])), (x1, .inr (11, [.ref x2, .int 0, .ref x3, .int 0, .ref x4, .ref x5, .int 1, .ref x6, .ref x7, .int 0])), (x17, .inl (ty 0, 20, .inl (fun _ => 0)))] sz)) (va_A [(x8, .inr (8, [.ref x1, .ref x9, .ref x10, .ref x12, .ref x14, .int 0, .ref x15, .ref x16, .ref x17, .int 0, .ref x18, .ref x19, .int 0, .int 0, .int 2, .int 0])), (x1, .inr (11, [.ref x2, .int 0, .ref x3, .int 0, .ref x4, .ref x5, .int 1, .ref x6, .ref x7, .int 0])), (x17, .inl (ty 0, 20, .inl (fun _ => 0)))] sz)) 0 0 (va_A [(x8, .inr (8, [.ref x1, .ref x9, .ref x10, .ref x12, .ref x14, .int 0, .ref x15, .ref x16, .ref x17, .int 0, .ref x18, .ref x19, .int 0, .int 0, .int 2, .int 0])), (x1, .inr (11, [.ref x2, .int 0, .ref x3, .int 0, .ref x4, .ref x5, .int 1, .ref x6, .ref x7, .int 0])), (x17, .inl (ty 0, 20, .inl (fun _ => 0)))] sz) := by
  refine Met.ofW (cc := cX3_keepInstances) (maxL := 4) (ret := none) (by decide) rfl ?_
  intro p e s m args below meth c s₁ B hml hv
  obtain ⟨rfl, hsz, hP, hK, hD0, hE⟩ := hv
  have hx := B.exec
  have hb := B.bytes
  have hr := B.returns
  have hts := atoms_spec (ws := vs_k_X3_keepInstances) B.pre
  have hown : s.vm.findClass RX3 = some m.cls := findClass_of_methodNamed B.named
  have hlocks := B.notSynchronized
  subst hsz
  have hD := hD0.self (sz := s.heap.size)
  generalize hAe : va_A [(x8, .inr (8, [.ref x1, .ref x9, .ref x10, .ref x12, .ref x14, .int 0, .ref x15, .ref x16, .ref x17, .int 0, .ref x18, .ref x19, .int 0, .int 0, .int 2, .int 0])), (x1, .inr (11, [.ref x2, .int 0, .ref x3, .int 0, .ref x4, .ref x5, .int 1, .ref x6, .ref x7, .int 0])), (x17, .inl (ty 0, 20, .inl (fun _ => 0)))] s.heap.size = A at hD hE ⊢
  have hA : ∀ q : Nat, s.heap.size ≤ q → A q := fun q h => by rw [← hAe]; exact Or.inr h
  have hS : va_S A s.heap s.heap [] := va_S.rf
  have hP : va_P D vwCl [(x8, .inr (8, [.ref x1, .ref x9, .ref x10, .ref x12, .ref x14, .int 0, .ref x15, .ref x16, .ref x17, .int 0, .ref x18, .ref x19, .int 0, .int 0, .int 2, .int 0])), (x1, .inr (11, [.ref x2, .int 0, .ref x3, .int 0, .ref x4, .ref x5, .int 1, .ref x6, .ref x7, .int 0])), (x17, .inl (ty 0, 20, .inl (fun _ => 0)))] s.heap := hP
  have hl := lv_entry ([.ref x8]) (n := 4) (Nat.le_of_ble_eq_true rfl)
  rw [lg_entry_eq]
  generalize (lg_sl ([.ref x8]) ++ List.replicate (4 - (lg_sl ([.ref x8])).length) Slot.unset).toArray = ls at hl ⊢
  have hl : lv_has ls 4 [(0, .ref x8)] := hl
  refine lv_aload_n hx hb dX3_keepInstances_0 rfl (lv_at hl 0 rfl) ?_
  refine lv_iconst (v := 0) hx hb dX3_keepInstances_1 (by decide) ?_
  refine va_put (D := D) (ci := 8) (v := .int 0) (ty := tyX3 9) (C := RX3) (T := TX3) (N := 16) hx hb hts iv_k_X3_keepInstances_X3 tyX3 tyX3_ok nmX3 hown hK hP hD hS 0 rfl rfl 9 (by decide) (hts (.fieldLink RX3 132 "AnswerFold$Grounding" "keptCount" "I") (by decide +kernel)) (fun _ h9 => h9) rfl (by decide +kernel) rfl rfl (Nat.le_of_ble_eq_true rfl) dX3_keepInstances_2 (fun H locs hP hD hS => ?_)
  have hP : va_P D vwCl [(x8, .inr (8, [.ref x1, .ref x9, .ref x10, .ref x12, .ref x14, .int 0, .ref x15, .ref x16, .ref x17, .int 0, .ref x18, .ref x19, .int 0, .int 0, .int 2, .int 0])), (x1, .inr (11, [.ref x2, .int 0, .ref x3, .int 0, .ref x4, .ref x5, .int 1, .ref x6, .ref x7, .int 0])), (x17, .inl (ty 0, 20, .inl (fun _ => 0)))] H := hP
  have hD : va_D A [(x8, .inr (8, [.ref x1, .ref x9, .ref x10, .ref x12, .ref x14, .int 0, .ref x15, .ref x16, .ref x17, .int 0, .ref x18, .ref x19, .int 0, .int 0, .int 2, .int 0])), (x1, .inr (11, [.ref x2, .int 0, .ref x3, .int 0, .ref x4, .ref x5, .int 1, .ref x6, .ref x7, .int 0])), (x17, .inl (ty 0, 20, .inl (fun _ => 0)))] := hD
  refine lv_iconst (v := 0) hx hb dX3_keepInstances_5 (by decide) ?_
  refine lv_istore_n (lv' := [(1, .int 0), (0, .ref x8)]) hx hb dX3_keepInstances_6 rfl hl (by decide) rfl (fun ls hl => ?_)
  refine lv_iload_n hx hb dX3_keepInstances_7 rfl (lv_at hl 0 rfl) ?_
  refine lv_bipush (v := 20) hx hb dX3_keepInstances_8 (by decide) ?_
  refine lv_icmp_ge (tgt := 76) hx hb dX3_keepInstances_10 (by decide) (fun c0 => absurd c0 (by decide)) (fun _ => ?_)
  refine lv_aload_n hx hb dX3_keepInstances_13 rfl (lv_at hl 1 rfl) ?_
  refine va_get (D := D) (ci := 8) (v := .ref x17) (C := RX3) (T := TX3) (N := 16) hx hb hts iv_k_X3_keepInstances_X3 hown hK hP 0 rfl rfl 8 (by decide) (hts (.fieldLink RX3 38 "AnswerFold$Grounding" "keptByRule" "[I") (by decide +kernel)) (fun _ h9 => h9) rfl dX3_keepInstances_14 ?_
  refine lv_iload_n hx hb dX3_keepInstances_17 rfl (lv_at hl 0 rfl) ?_
  refine lv_iconst (v := 0) hx hb dX3_keepInstances_18 (by decide) ?_
  refine va_iast (D := D) hx hb hK hP hD hS 2 0 rfl rfl (vp_in_iff.mpr (by decide)) dX3_keepInstances_19 (fun H locs hP hD hS => ?_)
  rw [wq_upd0] at hP hD
  have hP : va_P D vwCl [(x8, .inr (8, [.ref x1, .ref x9, .ref x10, .ref x12, .ref x14, .int 0, .ref x15, .ref x16, .ref x17, .int 0, .ref x18, .ref x19, .int 0, .int 0, .int 2, .int 0])), (x1, .inr (11, [.ref x2, .int 0, .ref x3, .int 0, .ref x4, .ref x5, .int 1, .ref x6, .ref x7, .int 0])), (x17, .inl (ty 0, 20, .inl (fun _ => 0)))] H := hP
  have hD : va_D A [(x8, .inr (8, [.ref x1, .ref x9, .ref x10, .ref x12, .ref x14, .int 0, .ref x15, .ref x16, .ref x17, .int 0, .ref x18, .ref x19, .int 0, .int 0, .int 2, .int 0])), (x1, .inr (11, [.ref x2, .int 0, .ref x3, .int 0, .ref x4, .ref x5, .int 1, .ref x6, .ref x7, .int 0])), (x17, .inl (ty 0, 20, .inl (fun _ => 0)))] := hD
  refine lv_aload_n hx hb dX3_keepInstances_20 rfl (lv_at hl 1 rfl) ?_
  refine va_get (D := D) (ci := 8) (v := .ref x1) (C := RX3) (T := TX3) (N := 16) hx hb hts iv_k_X3_keepInstances_X3 hown hK hP 0 rfl rfl 0 (by decide) (hts (.fieldLink RX3 47 "AnswerFold$Grounding" "program" "LAnswerFold$Program;") (by decide +kernel)) (fun _ h9 => h9) rfl dX3_keepInstances_21 ?_
  refine lv_iload_n hx hb dX3_keepInstances_24 rfl (lv_at hl 0 rfl) ?_
  refine wq_r (wc := [(x1, .inr (11, [.ref x2, .int 0, .ref x3, .int 0, .ref x4, .ref x5, .int 1, .ref x6, .ref x7, .int 0]))]) (wr := [(x8, .inr (8, [.ref x1, .ref x9, .ref x10, .ref x12, .ref x14, .int 0, .ref x15, .ref x16, .ref x17, .int 0, .ref x18, .ref x19, .int 0, .int 0, .int 2, .int 0])), (x17, .inl (ty 0, 20, .inl (fun _ => 0)))]) (va_runV (As := [.int 0]) (rest := []) ⟨hx, hb, hml, hown, hts⟩ (k_X6_ruleAt l D ty td mi H.size x1 x2 x3 x4 x5 x6 x7 0) (cwV 1 hts gv_k_X3_keepInstances_0 rfl rfl rfl (by decide +kernel) ⟨(Nat.le_of_ble_eq_true rfl), (Nat.le_of_ble_eq_true rfl)⟩) (wq_preV hP hD hK hE hS hA [1] rfl (by decide) 1 11 rfl rfl) rfl rfl hl.1 rfl (lv_room (Nat.le_of_ble_eq_true rfl)) dX3_keepInstances_25 ⟨(Nat.le_of_ble_eq_true rfl), (Nat.le_of_ble_eq_true rfl)⟩) hS hA hP hD [1] [0, 2] rfl rfl (by decide) (by decide) (fun r u H locs hw hP hD hS => ?_)
  obtain ⟨rfl, rfl⟩ := hw
  have hP : va_P D vwCl [(x8, .inr (8, [.ref x1, .ref x9, .ref x10, .ref x12, .ref x14, .int 0, .ref x15, .ref x16, .ref x17, .int 0, .ref x18, .ref x19, .int 0, .int 0, .int 2, .int 0])), (x17, .inl (ty 0, 20, .inl (fun _ => 0))), (x1, .inr (11, [.ref x2, .int 0, .ref x3, .int 0, .ref x4, .ref x5, .int 1, .ref x6, .ref x7, .int 0]))] H := hP
  have hD : va_D A [(x8, .inr (8, [.ref x1, .ref x9, .ref x10, .ref x12, .ref x14, .int 0, .ref x15, .ref x16, .ref x17, .int 0, .ref x18, .ref x19, .int 0, .int 0, .int 2, .int 0])), (x17, .inl (ty 0, 20, .inl (fun _ => 0))), (x1, .inr (11, [.ref x2, .int 0, .ref x3, .int 0, .ref x4, .ref x5, .int 1, .ref x6, .ref x7, .int 0]))] := hD
  refine W.widen (k := 0) (n := 0) (Nat.le_of_ble_eq_true rfl) (Nat.le_of_ble_eq_true rfl) ?_
  refine lv_astore_nN (lv' := [(2, .null), (1, .int 0), (0, .ref x8)]) hx hb dX3_keepInstances_28 rfl hl (by decide) rfl (fun ls hl => ?_)
  refine lv_iconst (v := 0) hx hb dX3_keepInstances_29 (by decide) ?_
  refine lv_istore_n (lv' := [(3, .int 0), (2, .null), (1, .int 0), (0, .ref x8)]) hx hb dX3_keepInstances_30 rfl hl (by decide) rfl (fun ls hl => ?_)
  refine lv_aload_nN hx hb dX3_keepInstances_31 rfl (lv_at hl 1 rfl) ?_
  refine lv_ifnullN (tgt := 70) hx hb dX3_keepInstances_32 (by decide) ?_
  refine lv_iinc (v := 1) (lv' := [(1, .int 1), (3, .int 0), (2, .null), (0, .ref x8)]) hx hb dX3_keepInstances_70 hl (k := 2) rfl (by decide) (by decide) rfl (fun ls hl => ?_)
  refine lv_goto (tgt := 7) hx hb dX3_keepInstances_73 (by decide) ?_
  refine lv_iload_n hx hb dX3_keepInstances_7 rfl (lv_at hl 0 rfl) ?_
  refine lv_bipush (v := 20) hx hb dX3_keepInstances_8 (by decide) ?_
  refine lv_icmp_ge (tgt := 76) hx hb dX3_keepInstances_10 (by decide) (fun c0 => absurd c0 (by decide)) (fun _ => ?_)
  refine lv_aload_n hx hb dX3_keepInstances_13 rfl (lv_at hl 3 rfl) ?_
  refine va_get (D := D) (ci := 8) (v := .ref x17) (C := RX3) (T := TX3) (N := 16) hx hb hts iv_k_X3_keepInstances_X3 hown hK hP 0 rfl rfl 8 (by decide) (hts (.fieldLink RX3 38 "AnswerFold$Grounding" "keptByRule" "[I") (by decide +kernel)) (fun _ h9 => h9) rfl dX3_keepInstances_14 ?_
  refine lv_iload_n hx hb dX3_keepInstances_17 rfl (lv_at hl 0 rfl) ?_
  refine lv_iconst (v := 0) hx hb dX3_keepInstances_18 (by decide) ?_
  refine va_iast (D := D) hx hb hK hP hD hS 1 0 rfl rfl (vp_in_iff.mpr (by decide)) dX3_keepInstances_19 (fun H locs hP hD hS => ?_)
  rw [wq_upd0] at hP hD
  have hP : va_P D vwCl [(x8, .inr (8, [.ref x1, .ref x9, .ref x10, .ref x12, .ref x14, .int 0, .ref x15, .ref x16, .ref x17, .int 0, .ref x18, .ref x19, .int 0, .int 0, .int 2, .int 0])), (x17, .inl (ty 0, 20, .inl (fun _ => 0))), (x1, .inr (11, [.ref x2, .int 0, .ref x3, .int 0, .ref x4, .ref x5, .int 1, .ref x6, .ref x7, .int 0]))] H := hP
  have hD : va_D A [(x8, .inr (8, [.ref x1, .ref x9, .ref x10, .ref x12, .ref x14, .int 0, .ref x15, .ref x16, .ref x17, .int 0, .ref x18, .ref x19, .int 0, .int 0, .int 2, .int 0])), (x17, .inl (ty 0, 20, .inl (fun _ => 0))), (x1, .inr (11, [.ref x2, .int 0, .ref x3, .int 0, .ref x4, .ref x5, .int 1, .ref x6, .ref x7, .int 0]))] := hD
  refine lv_aload_n hx hb dX3_keepInstances_20 rfl (lv_at hl 3 rfl) ?_
  refine va_get (D := D) (ci := 8) (v := .ref x1) (C := RX3) (T := TX3) (N := 16) hx hb hts iv_k_X3_keepInstances_X3 hown hK hP 0 rfl rfl 0 (by decide) (hts (.fieldLink RX3 47 "AnswerFold$Grounding" "program" "LAnswerFold$Program;") (by decide +kernel)) (fun _ h9 => h9) rfl dX3_keepInstances_21 ?_
  refine lv_iload_n hx hb dX3_keepInstances_24 rfl (lv_at hl 0 rfl) ?_
  refine wq_r (wc := [(x1, .inr (11, [.ref x2, .int 0, .ref x3, .int 0, .ref x4, .ref x5, .int 1, .ref x6, .ref x7, .int 0]))]) (wr := [(x8, .inr (8, [.ref x1, .ref x9, .ref x10, .ref x12, .ref x14, .int 0, .ref x15, .ref x16, .ref x17, .int 0, .ref x18, .ref x19, .int 0, .int 0, .int 2, .int 0])), (x17, .inl (ty 0, 20, .inl (fun _ => 0)))]) (va_runV (As := [.int 1]) (rest := []) ⟨hx, hb, hml, hown, hts⟩ (k_X6_ruleAt l D ty td mi H.size x1 x2 x3 x4 x5 x6 x7 1) (cwV 1 hts gv_k_X3_keepInstances_1 rfl rfl rfl (by decide +kernel) ⟨(Nat.le_of_ble_eq_true rfl), (Nat.le_of_ble_eq_true rfl)⟩) (wq_preV hP hD hK hE hS hA [2] rfl (by decide) 2 11 rfl rfl) rfl rfl hl.1 rfl (lv_room (Nat.le_of_ble_eq_true rfl)) dX3_keepInstances_25 ⟨(Nat.le_of_ble_eq_true rfl), (Nat.le_of_ble_eq_true rfl)⟩) hS hA hP hD [2] [0, 1] rfl rfl (by decide) (by decide) (fun r u H locs hw hP hD hS => ?_)
  obtain ⟨rfl, rfl⟩ := hw
  have hP : va_P D vwCl [(x8, .inr (8, [.ref x1, .ref x9, .ref x10, .ref x12, .ref x14, .int 0, .ref x15, .ref x16, .ref x17, .int 0, .ref x18, .ref x19, .int 0, .int 0, .int 2, .int 0])), (x17, .inl (ty 0, 20, .inl (fun _ => 0))), (x1, .inr (11, [.ref x2, .int 0, .ref x3, .int 0, .ref x4, .ref x5, .int 1, .ref x6, .ref x7, .int 0]))] H := hP
  have hD : va_D A [(x8, .inr (8, [.ref x1, .ref x9, .ref x10, .ref x12, .ref x14, .int 0, .ref x15, .ref x16, .ref x17, .int 0, .ref x18, .ref x19, .int 0, .int 0, .int 2, .int 0])), (x17, .inl (ty 0, 20, .inl (fun _ => 0))), (x1, .inr (11, [.ref x2, .int 0, .ref x3, .int 0, .ref x4, .ref x5, .int 1, .ref x6, .ref x7, .int 0]))] := hD
  refine W.widen (k := 0) (n := 0) (Nat.le_of_ble_eq_true rfl) (Nat.le_of_ble_eq_true rfl) ?_
  refine lv_astore_nN (lv' := [(2, .null), (1, .int 1), (3, .int 0), (0, .ref x8)]) hx hb dX3_keepInstances_28 rfl hl (by decide) rfl (fun ls hl => ?_)
  refine lv_iconst (v := 0) hx hb dX3_keepInstances_29 (by decide) ?_
  refine lv_istore_n (lv' := [(3, .int 0), (2, .null), (1, .int 1), (0, .ref x8)]) hx hb dX3_keepInstances_30 rfl hl (by decide) rfl (fun ls hl => ?_)
  refine lv_aload_nN hx hb dX3_keepInstances_31 rfl (lv_at hl 1 rfl) ?_
  refine lv_ifnullN (tgt := 70) hx hb dX3_keepInstances_32 (by decide) ?_
  refine lv_iinc (v := 2) (lv' := [(1, .int 2), (3, .int 0), (2, .null), (0, .ref x8)]) hx hb dX3_keepInstances_70 hl (k := 2) rfl (by decide) (by decide) rfl (fun ls hl => ?_)
  refine lv_goto (tgt := 7) hx hb dX3_keepInstances_73 (by decide) ?_
  refine lv_iload_n hx hb dX3_keepInstances_7 rfl (lv_at hl 0 rfl) ?_
  refine lv_bipush (v := 20) hx hb dX3_keepInstances_8 (by decide) ?_
  refine lv_icmp_ge (tgt := 76) hx hb dX3_keepInstances_10 (by decide) (fun c0 => absurd c0 (by decide)) (fun _ => ?_)
  refine lv_aload_n hx hb dX3_keepInstances_13 rfl (lv_at hl 3 rfl) ?_
  refine va_get (D := D) (ci := 8) (v := .ref x17) (C := RX3) (T := TX3) (N := 16) hx hb hts iv_k_X3_keepInstances_X3 hown hK hP 0 rfl rfl 8 (by decide) (hts (.fieldLink RX3 38 "AnswerFold$Grounding" "keptByRule" "[I") (by decide +kernel)) (fun _ h9 => h9) rfl dX3_keepInstances_14 ?_
  refine lv_iload_n hx hb dX3_keepInstances_17 rfl (lv_at hl 0 rfl) ?_
  refine lv_iconst (v := 0) hx hb dX3_keepInstances_18 (by decide) ?_
  refine va_iast (D := D) hx hb hK hP hD hS 1 0 rfl rfl (vp_in_iff.mpr (by decide)) dX3_keepInstances_19 (fun H locs hP hD hS => ?_)
  rw [wq_upd0] at hP hD
  have hP : va_P D vwCl [(x8, .inr (8, [.ref x1, .ref x9, .ref x10, .ref x12, .ref x14, .int 0, .ref x15, .ref x16, .ref x17, .int 0, .ref x18, .ref x19, .int 0, .int 0, .int 2, .int 0])), (x17, .inl (ty 0, 20, .inl (fun _ => 0))), (x1, .inr (11, [.ref x2, .int 0, .ref x3, .int 0, .ref x4, .ref x5, .int 1, .ref x6, .ref x7, .int 0]))] H := hP
  have hD : va_D A [(x8, .inr (8, [.ref x1, .ref x9, .ref x10, .ref x12, .ref x14, .int 0, .ref x15, .ref x16, .ref x17, .int 0, .ref x18, .ref x19, .int 0, .int 0, .int 2, .int 0])), (x17, .inl (ty 0, 20, .inl (fun _ => 0))), (x1, .inr (11, [.ref x2, .int 0, .ref x3, .int 0, .ref x4, .ref x5, .int 1, .ref x6, .ref x7, .int 0]))] := hD
  refine lv_aload_n hx hb dX3_keepInstances_20 rfl (lv_at hl 3 rfl) ?_
  refine va_get (D := D) (ci := 8) (v := .ref x1) (C := RX3) (T := TX3) (N := 16) hx hb hts iv_k_X3_keepInstances_X3 hown hK hP 0 rfl rfl 0 (by decide) (hts (.fieldLink RX3 47 "AnswerFold$Grounding" "program" "LAnswerFold$Program;") (by decide +kernel)) (fun _ h9 => h9) rfl dX3_keepInstances_21 ?_
  refine lv_iload_n hx hb dX3_keepInstances_24 rfl (lv_at hl 0 rfl) ?_
  refine wq_r (wc := [(x1, .inr (11, [.ref x2, .int 0, .ref x3, .int 0, .ref x4, .ref x5, .int 1, .ref x6, .ref x7, .int 0]))]) (wr := [(x8, .inr (8, [.ref x1, .ref x9, .ref x10, .ref x12, .ref x14, .int 0, .ref x15, .ref x16, .ref x17, .int 0, .ref x18, .ref x19, .int 0, .int 0, .int 2, .int 0])), (x17, .inl (ty 0, 20, .inl (fun _ => 0)))]) (va_runV (As := [.int 2]) (rest := []) ⟨hx, hb, hml, hown, hts⟩ (k_X6_ruleAt l D ty td mi H.size x1 x2 x3 x4 x5 x6 x7 2) (cwV 1 hts gv_k_X3_keepInstances_2 rfl rfl rfl (by decide +kernel) ⟨(Nat.le_of_ble_eq_true rfl), (Nat.le_of_ble_eq_true rfl)⟩) (wq_preV hP hD hK hE hS hA [2] rfl (by decide) 2 11 rfl rfl) rfl rfl hl.1 rfl (lv_room (Nat.le_of_ble_eq_true rfl)) dX3_keepInstances_25 ⟨(Nat.le_of_ble_eq_true rfl), (Nat.le_of_ble_eq_true rfl)⟩) hS hA hP hD [2] [0, 1] rfl rfl (by decide) (by decide) (fun r u H locs hw hP hD hS => ?_)
  obtain ⟨rfl, rfl⟩ := hw
  have hP : va_P D vwCl [(x8, .inr (8, [.ref x1, .ref x9, .ref x10, .ref x12, .ref x14, .int 0, .ref x15, .ref x16, .ref x17, .int 0, .ref x18, .ref x19, .int 0, .int 0, .int 2, .int 0])), (x17, .inl (ty 0, 20, .inl (fun _ => 0))), (x1, .inr (11, [.ref x2, .int 0, .ref x3, .int 0, .ref x4, .ref x5, .int 1, .ref x6, .ref x7, .int 0]))] H := hP
  have hD : va_D A [(x8, .inr (8, [.ref x1, .ref x9, .ref x10, .ref x12, .ref x14, .int 0, .ref x15, .ref x16, .ref x17, .int 0, .ref x18, .ref x19, .int 0, .int 0, .int 2, .int 0])), (x17, .inl (ty 0, 20, .inl (fun _ => 0))), (x1, .inr (11, [.ref x2, .int 0, .ref x3, .int 0, .ref x4, .ref x5, .int 1, .ref x6, .ref x7, .int 0]))] := hD
  refine W.widen (k := 0) (n := 0) (Nat.le_of_ble_eq_true rfl) (Nat.le_of_ble_eq_true rfl) ?_
  refine lv_astore_nN (lv' := [(2, .null), (1, .int 2), (3, .int 0), (0, .ref x8)]) hx hb dX3_keepInstances_28 rfl hl (by decide) rfl (fun ls hl => ?_)
  refine lv_iconst (v := 0) hx hb dX3_keepInstances_29 (by decide) ?_
  refine lv_istore_n (lv' := [(3, .int 0), (2, .null), (1, .int 2), (0, .ref x8)]) hx hb dX3_keepInstances_30 rfl hl (by decide) rfl (fun ls hl => ?_)
  refine lv_aload_nN hx hb dX3_keepInstances_31 rfl (lv_at hl 1 rfl) ?_
  refine lv_ifnullN (tgt := 70) hx hb dX3_keepInstances_32 (by decide) ?_
  refine lv_iinc (v := 3) (lv' := [(1, .int 3), (3, .int 0), (2, .null), (0, .ref x8)]) hx hb dX3_keepInstances_70 hl (k := 2) rfl (by decide) (by decide) rfl (fun ls hl => ?_)
  refine lv_goto (tgt := 7) hx hb dX3_keepInstances_73 (by decide) ?_
  refine lv_iload_n hx hb dX3_keepInstances_7 rfl (lv_at hl 0 rfl) ?_
  refine lv_bipush (v := 20) hx hb dX3_keepInstances_8 (by decide) ?_
  refine lv_icmp_ge (tgt := 76) hx hb dX3_keepInstances_10 (by decide) (fun c0 => absurd c0 (by decide)) (fun _ => ?_)
  refine lv_aload_n hx hb dX3_keepInstances_13 rfl (lv_at hl 3 rfl) ?_
  refine va_get (D := D) (ci := 8) (v := .ref x17) (C := RX3) (T := TX3) (N := 16) hx hb hts iv_k_X3_keepInstances_X3 hown hK hP 0 rfl rfl 8 (by decide) (hts (.fieldLink RX3 38 "AnswerFold$Grounding" "keptByRule" "[I") (by decide +kernel)) (fun _ h9 => h9) rfl dX3_keepInstances_14 ?_
  refine lv_iload_n hx hb dX3_keepInstances_17 rfl (lv_at hl 0 rfl) ?_
  refine lv_iconst (v := 0) hx hb dX3_keepInstances_18 (by decide) ?_
  refine va_iast (D := D) hx hb hK hP hD hS 1 0 rfl rfl (vp_in_iff.mpr (by decide)) dX3_keepInstances_19 (fun H locs hP hD hS => ?_)
  rw [wq_upd0] at hP hD
  have hP : va_P D vwCl [(x8, .inr (8, [.ref x1, .ref x9, .ref x10, .ref x12, .ref x14, .int 0, .ref x15, .ref x16, .ref x17, .int 0, .ref x18, .ref x19, .int 0, .int 0, .int 2, .int 0])), (x17, .inl (ty 0, 20, .inl (fun _ => 0))), (x1, .inr (11, [.ref x2, .int 0, .ref x3, .int 0, .ref x4, .ref x5, .int 1, .ref x6, .ref x7, .int 0]))] H := hP
  have hD : va_D A [(x8, .inr (8, [.ref x1, .ref x9, .ref x10, .ref x12, .ref x14, .int 0, .ref x15, .ref x16, .ref x17, .int 0, .ref x18, .ref x19, .int 0, .int 0, .int 2, .int 0])), (x17, .inl (ty 0, 20, .inl (fun _ => 0))), (x1, .inr (11, [.ref x2, .int 0, .ref x3, .int 0, .ref x4, .ref x5, .int 1, .ref x6, .ref x7, .int 0]))] := hD
  refine lv_aload_n hx hb dX3_keepInstances_20 rfl (lv_at hl 3 rfl) ?_
  refine va_get (D := D) (ci := 8) (v := .ref x1) (C := RX3) (T := TX3) (N := 16) hx hb hts iv_k_X3_keepInstances_X3 hown hK hP 0 rfl rfl 0 (by decide) (hts (.fieldLink RX3 47 "AnswerFold$Grounding" "program" "LAnswerFold$Program;") (by decide +kernel)) (fun _ h9 => h9) rfl dX3_keepInstances_21 ?_
  refine lv_iload_n hx hb dX3_keepInstances_24 rfl (lv_at hl 0 rfl) ?_
  refine wq_r (wc := [(x1, .inr (11, [.ref x2, .int 0, .ref x3, .int 0, .ref x4, .ref x5, .int 1, .ref x6, .ref x7, .int 0]))]) (wr := [(x8, .inr (8, [.ref x1, .ref x9, .ref x10, .ref x12, .ref x14, .int 0, .ref x15, .ref x16, .ref x17, .int 0, .ref x18, .ref x19, .int 0, .int 0, .int 2, .int 0])), (x17, .inl (ty 0, 20, .inl (fun _ => 0)))]) (va_runV (As := [.int 3]) (rest := []) ⟨hx, hb, hml, hown, hts⟩ (k_X6_ruleAt l D ty td mi H.size x1 x2 x3 x4 x5 x6 x7 3) (cwV 1 hts gv_k_X3_keepInstances_3 rfl rfl rfl (by decide +kernel) ⟨(Nat.le_of_ble_eq_true rfl), (Nat.le_of_ble_eq_true rfl)⟩) (wq_preV hP hD hK hE hS hA [2] rfl (by decide) 2 11 rfl rfl) rfl rfl hl.1 rfl (lv_room (Nat.le_of_ble_eq_true rfl)) dX3_keepInstances_25 ⟨(Nat.le_of_ble_eq_true rfl), (Nat.le_of_ble_eq_true rfl)⟩) hS hA hP hD [2] [0, 1] rfl rfl (by decide) (by decide) (fun r u H locs hw hP hD hS => ?_)
  obtain ⟨rfl, rfl⟩ := hw
  have hP : va_P D vwCl [(x8, .inr (8, [.ref x1, .ref x9, .ref x10, .ref x12, .ref x14, .int 0, .ref x15, .ref x16, .ref x17, .int 0, .ref x18, .ref x19, .int 0, .int 0, .int 2, .int 0])), (x17, .inl (ty 0, 20, .inl (fun _ => 0))), (x1, .inr (11, [.ref x2, .int 0, .ref x3, .int 0, .ref x4, .ref x5, .int 1, .ref x6, .ref x7, .int 0]))] H := hP
  have hD : va_D A [(x8, .inr (8, [.ref x1, .ref x9, .ref x10, .ref x12, .ref x14, .int 0, .ref x15, .ref x16, .ref x17, .int 0, .ref x18, .ref x19, .int 0, .int 0, .int 2, .int 0])), (x17, .inl (ty 0, 20, .inl (fun _ => 0))), (x1, .inr (11, [.ref x2, .int 0, .ref x3, .int 0, .ref x4, .ref x5, .int 1, .ref x6, .ref x7, .int 0]))] := hD
  refine W.widen (k := 0) (n := 0) (Nat.le_of_ble_eq_true rfl) (Nat.le_of_ble_eq_true rfl) ?_
  refine lv_astore_nN (lv' := [(2, .null), (1, .int 3), (3, .int 0), (0, .ref x8)]) hx hb dX3_keepInstances_28 rfl hl (by decide) rfl (fun ls hl => ?_)
  refine lv_iconst (v := 0) hx hb dX3_keepInstances_29 (by decide) ?_
  refine lv_istore_n (lv' := [(3, .int 0), (2, .null), (1, .int 3), (0, .ref x8)]) hx hb dX3_keepInstances_30 rfl hl (by decide) rfl (fun ls hl => ?_)
  refine lv_aload_nN hx hb dX3_keepInstances_31 rfl (lv_at hl 1 rfl) ?_
  refine lv_ifnullN (tgt := 70) hx hb dX3_keepInstances_32 (by decide) ?_
  refine lv_iinc (v := 4) (lv' := [(1, .int 4), (3, .int 0), (2, .null), (0, .ref x8)]) hx hb dX3_keepInstances_70 hl (k := 2) rfl (by decide) (by decide) rfl (fun ls hl => ?_)
  refine lv_goto (tgt := 7) hx hb dX3_keepInstances_73 (by decide) ?_
  refine lv_iload_n hx hb dX3_keepInstances_7 rfl (lv_at hl 0 rfl) ?_
  refine lv_bipush (v := 20) hx hb dX3_keepInstances_8 (by decide) ?_
  refine lv_icmp_ge (tgt := 76) hx hb dX3_keepInstances_10 (by decide) (fun c0 => absurd c0 (by decide)) (fun _ => ?_)
  refine lv_aload_n hx hb dX3_keepInstances_13 rfl (lv_at hl 3 rfl) ?_
  refine va_get (D := D) (ci := 8) (v := .ref x17) (C := RX3) (T := TX3) (N := 16) hx hb hts iv_k_X3_keepInstances_X3 hown hK hP 0 rfl rfl 8 (by decide) (hts (.fieldLink RX3 38 "AnswerFold$Grounding" "keptByRule" "[I") (by decide +kernel)) (fun _ h9 => h9) rfl dX3_keepInstances_14 ?_
  refine lv_iload_n hx hb dX3_keepInstances_17 rfl (lv_at hl 0 rfl) ?_
  refine lv_iconst (v := 0) hx hb dX3_keepInstances_18 (by decide) ?_
  refine va_iast (D := D) hx hb hK hP hD hS 1 0 rfl rfl (vp_in_iff.mpr (by decide)) dX3_keepInstances_19 (fun H locs hP hD hS => ?_)
  rw [wq_upd0] at hP hD
  have hP : va_P D vwCl [(x8, .inr (8, [.ref x1, .ref x9, .ref x10, .ref x12, .ref x14, .int 0, .ref x15, .ref x16, .ref x17, .int 0, .ref x18, .ref x19, .int 0, .int 0, .int 2, .int 0])), (x17, .inl (ty 0, 20, .inl (fun _ => 0))), (x1, .inr (11, [.ref x2, .int 0, .ref x3, .int 0, .ref x4, .ref x5, .int 1, .ref x6, .ref x7, .int 0]))] H := hP
  have hD : va_D A [(x8, .inr (8, [.ref x1, .ref x9, .ref x10, .ref x12, .ref x14, .int 0, .ref x15, .ref x16, .ref x17, .int 0, .ref x18, .ref x19, .int 0, .int 0, .int 2, .int 0])), (x17, .inl (ty 0, 20, .inl (fun _ => 0))), (x1, .inr (11, [.ref x2, .int 0, .ref x3, .int 0, .ref x4, .ref x5, .int 1, .ref x6, .ref x7, .int 0]))] := hD
  refine lv_aload_n hx hb dX3_keepInstances_20 rfl (lv_at hl 3 rfl) ?_
  refine va_get (D := D) (ci := 8) (v := .ref x1) (C := RX3) (T := TX3) (N := 16) hx hb hts iv_k_X3_keepInstances_X3 hown hK hP 0 rfl rfl 0 (by decide) (hts (.fieldLink RX3 47 "AnswerFold$Grounding" "program" "LAnswerFold$Program;") (by decide +kernel)) (fun _ h9 => h9) rfl dX3_keepInstances_21 ?_
  refine lv_iload_n hx hb dX3_keepInstances_24 rfl (lv_at hl 0 rfl) ?_
  refine wq_r (wc := [(x1, .inr (11, [.ref x2, .int 0, .ref x3, .int 0, .ref x4, .ref x5, .int 1, .ref x6, .ref x7, .int 0]))]) (wr := [(x8, .inr (8, [.ref x1, .ref x9, .ref x10, .ref x12, .ref x14, .int 0, .ref x15, .ref x16, .ref x17, .int 0, .ref x18, .ref x19, .int 0, .int 0, .int 2, .int 0])), (x17, .inl (ty 0, 20, .inl (fun _ => 0)))]) (va_runV (As := [.int 4]) (rest := []) ⟨hx, hb, hml, hown, hts⟩ (k_X6_ruleAt l D ty td mi H.size x1 x2 x3 x4 x5 x6 x7 4) (cwV 1 hts gv_k_X3_keepInstances_4 rfl rfl rfl (by decide +kernel) ⟨(Nat.le_of_ble_eq_true rfl), (Nat.le_of_ble_eq_true rfl)⟩) (wq_preV hP hD hK hE hS hA [2] rfl (by decide) 2 11 rfl rfl) rfl rfl hl.1 rfl (lv_room (Nat.le_of_ble_eq_true rfl)) dX3_keepInstances_25 ⟨(Nat.le_of_ble_eq_true rfl), (Nat.le_of_ble_eq_true rfl)⟩) hS hA hP hD [2] [0, 1] rfl rfl (by decide) (by decide) (fun r u H locs hw hP hD hS => ?_)
  obtain ⟨rfl, rfl⟩ := hw
  have hP : va_P D vwCl [(x8, .inr (8, [.ref x1, .ref x9, .ref x10, .ref x12, .ref x14, .int 0, .ref x15, .ref x16, .ref x17, .int 0, .ref x18, .ref x19, .int 0, .int 0, .int 2, .int 0])), (x17, .inl (ty 0, 20, .inl (fun _ => 0))), (x1, .inr (11, [.ref x2, .int 0, .ref x3, .int 0, .ref x4, .ref x5, .int 1, .ref x6, .ref x7, .int 0]))] H := hP
  have hD : va_D A [(x8, .inr (8, [.ref x1, .ref x9, .ref x10, .ref x12, .ref x14, .int 0, .ref x15, .ref x16, .ref x17, .int 0, .ref x18, .ref x19, .int 0, .int 0, .int 2, .int 0])), (x17, .inl (ty 0, 20, .inl (fun _ => 0))), (x1, .inr (11, [.ref x2, .int 0, .ref x3, .int 0, .ref x4, .ref x5, .int 1, .ref x6, .ref x7, .int 0]))] := hD
  refine W.widen (k := 0) (n := 0) (Nat.le_of_ble_eq_true rfl) (Nat.le_of_ble_eq_true rfl) ?_
  refine lv_astore_nN (lv' := [(2, .null), (1, .int 4), (3, .int 0), (0, .ref x8)]) hx hb dX3_keepInstances_28 rfl hl (by decide) rfl (fun ls hl => ?_)
  refine lv_iconst (v := 0) hx hb dX3_keepInstances_29 (by decide) ?_
  refine lv_istore_n (lv' := [(3, .int 0), (2, .null), (1, .int 4), (0, .ref x8)]) hx hb dX3_keepInstances_30 rfl hl (by decide) rfl (fun ls hl => ?_)
  refine lv_aload_nN hx hb dX3_keepInstances_31 rfl (lv_at hl 1 rfl) ?_
  refine lv_ifnullN (tgt := 70) hx hb dX3_keepInstances_32 (by decide) ?_
  refine lv_iinc (v := 5) (lv' := [(1, .int 5), (3, .int 0), (2, .null), (0, .ref x8)]) hx hb dX3_keepInstances_70 hl (k := 2) rfl (by decide) (by decide) rfl (fun ls hl => ?_)
  refine lv_goto (tgt := 7) hx hb dX3_keepInstances_73 (by decide) ?_
  refine lv_iload_n hx hb dX3_keepInstances_7 rfl (lv_at hl 0 rfl) ?_
  refine lv_bipush (v := 20) hx hb dX3_keepInstances_8 (by decide) ?_
  refine lv_icmp_ge (tgt := 76) hx hb dX3_keepInstances_10 (by decide) (fun c0 => absurd c0 (by decide)) (fun _ => ?_)
  refine lv_aload_n hx hb dX3_keepInstances_13 rfl (lv_at hl 3 rfl) ?_
  refine va_get (D := D) (ci := 8) (v := .ref x17) (C := RX3) (T := TX3) (N := 16) hx hb hts iv_k_X3_keepInstances_X3 hown hK hP 0 rfl rfl 8 (by decide) (hts (.fieldLink RX3 38 "AnswerFold$Grounding" "keptByRule" "[I") (by decide +kernel)) (fun _ h9 => h9) rfl dX3_keepInstances_14 ?_
  refine lv_iload_n hx hb dX3_keepInstances_17 rfl (lv_at hl 0 rfl) ?_
  refine lv_iconst (v := 0) hx hb dX3_keepInstances_18 (by decide) ?_
  refine va_iast (D := D) hx hb hK hP hD hS 1 0 rfl rfl (vp_in_iff.mpr (by decide)) dX3_keepInstances_19 (fun H locs hP hD hS => ?_)
  rw [wq_upd0] at hP hD
  have hP : va_P D vwCl [(x8, .inr (8, [.ref x1, .ref x9, .ref x10, .ref x12, .ref x14, .int 0, .ref x15, .ref x16, .ref x17, .int 0, .ref x18, .ref x19, .int 0, .int 0, .int 2, .int 0])), (x17, .inl (ty 0, 20, .inl (fun _ => 0))), (x1, .inr (11, [.ref x2, .int 0, .ref x3, .int 0, .ref x4, .ref x5, .int 1, .ref x6, .ref x7, .int 0]))] H := hP
  have hD : va_D A [(x8, .inr (8, [.ref x1, .ref x9, .ref x10, .ref x12, .ref x14, .int 0, .ref x15, .ref x16, .ref x17, .int 0, .ref x18, .ref x19, .int 0, .int 0, .int 2, .int 0])), (x17, .inl (ty 0, 20, .inl (fun _ => 0))), (x1, .inr (11, [.ref x2, .int 0, .ref x3, .int 0, .ref x4, .ref x5, .int 1, .ref x6, .ref x7, .int 0]))] := hD
  refine lv_aload_n hx hb dX3_keepInstances_20 rfl (lv_at hl 3 rfl) ?_
  refine va_get (D := D) (ci := 8) (v := .ref x1) (C := RX3) (T := TX3) (N := 16) hx hb hts iv_k_X3_keepInstances_X3 hown hK hP 0 rfl rfl 0 (by decide) (hts (.fieldLink RX3 47 "AnswerFold$Grounding" "program" "LAnswerFold$Program;") (by decide +kernel)) (fun _ h9 => h9) rfl dX3_keepInstances_21 ?_
  refine lv_iload_n hx hb dX3_keepInstances_24 rfl (lv_at hl 0 rfl) ?_
  refine wq_r (wc := [(x1, .inr (11, [.ref x2, .int 0, .ref x3, .int 0, .ref x4, .ref x5, .int 1, .ref x6, .ref x7, .int 0]))]) (wr := [(x8, .inr (8, [.ref x1, .ref x9, .ref x10, .ref x12, .ref x14, .int 0, .ref x15, .ref x16, .ref x17, .int 0, .ref x18, .ref x19, .int 0, .int 0, .int 2, .int 0])), (x17, .inl (ty 0, 20, .inl (fun _ => 0)))]) (va_runV (As := [.int 5]) (rest := []) ⟨hx, hb, hml, hown, hts⟩ (k_X6_ruleAt l D ty td mi H.size x1 x2 x3 x4 x5 x6 x7 5) (cwV 1 hts gv_k_X3_keepInstances_5 rfl rfl rfl (by decide +kernel) ⟨(Nat.le_of_ble_eq_true rfl), (Nat.le_of_ble_eq_true rfl)⟩) (wq_preV hP hD hK hE hS hA [2] rfl (by decide) 2 11 rfl rfl) rfl rfl hl.1 rfl (lv_room (Nat.le_of_ble_eq_true rfl)) dX3_keepInstances_25 ⟨(Nat.le_of_ble_eq_true rfl), (Nat.le_of_ble_eq_true rfl)⟩) hS hA hP hD [2] [0, 1] rfl rfl (by decide) (by decide) (fun r u H locs hw hP hD hS => ?_)
  obtain ⟨rfl, rfl⟩ := hw
  have hP : va_P D vwCl [(x8, .inr (8, [.ref x1, .ref x9, .ref x10, .ref x12, .ref x14, .int 0, .ref x15, .ref x16, .ref x17, .int 0, .ref x18, .ref x19, .int 0, .int 0, .int 2, .int 0])), (x17, .inl (ty 0, 20, .inl (fun _ => 0))), (x1, .inr (11, [.ref x2, .int 0, .ref x3, .int 0, .ref x4, .ref x5, .int 1, .ref x6, .ref x7, .int 0]))] H := hP
  have hD : va_D A [(x8, .inr (8, [.ref x1, .ref x9, .ref x10, .ref x12, .ref x14, .int 0, .ref x15, .ref x16, .ref x17, .int 0, .ref x18, .ref x19, .int 0, .int 0, .int 2, .int 0])), (x17, .inl (ty 0, 20, .inl (fun _ => 0))), (x1, .inr (11, [.ref x2, .int 0, .ref x3, .int 0, .ref x4, .ref x5, .int 1, .ref x6, .ref x7, .int 0]))] := hD
  refine W.widen (k := 0) (n := 0) (Nat.le_of_ble_eq_true rfl) (Nat.le_of_ble_eq_true rfl) ?_
  refine lv_astore_nN (lv' := [(2, .null), (1, .int 5), (3, .int 0), (0, .ref x8)]) hx hb dX3_keepInstances_28 rfl hl (by decide) rfl (fun ls hl => ?_)
  refine lv_iconst (v := 0) hx hb dX3_keepInstances_29 (by decide) ?_
  refine lv_istore_n (lv' := [(3, .int 0), (2, .null), (1, .int 5), (0, .ref x8)]) hx hb dX3_keepInstances_30 rfl hl (by decide) rfl (fun ls hl => ?_)
  refine lv_aload_nN hx hb dX3_keepInstances_31 rfl (lv_at hl 1 rfl) ?_
  refine lv_ifnullN (tgt := 70) hx hb dX3_keepInstances_32 (by decide) ?_
  refine lv_iinc (v := 6) (lv' := [(1, .int 6), (3, .int 0), (2, .null), (0, .ref x8)]) hx hb dX3_keepInstances_70 hl (k := 2) rfl (by decide) (by decide) rfl (fun ls hl => ?_)
  refine lv_goto (tgt := 7) hx hb dX3_keepInstances_73 (by decide) ?_
  refine lv_iload_n hx hb dX3_keepInstances_7 rfl (lv_at hl 0 rfl) ?_
  refine lv_bipush (v := 20) hx hb dX3_keepInstances_8 (by decide) ?_
  refine lv_icmp_ge (tgt := 76) hx hb dX3_keepInstances_10 (by decide) (fun c0 => absurd c0 (by decide)) (fun _ => ?_)
  refine lv_aload_n hx hb dX3_keepInstances_13 rfl (lv_at hl 3 rfl) ?_
  refine va_get (D := D) (ci := 8) (v := .ref x17) (C := RX3) (T := TX3) (N := 16) hx hb hts iv_k_X3_keepInstances_X3 hown hK hP 0 rfl rfl 8 (by decide) (hts (.fieldLink RX3 38 "AnswerFold$Grounding" "keptByRule" "[I") (by decide +kernel)) (fun _ h9 => h9) rfl dX3_keepInstances_14 ?_
  refine lv_iload_n hx hb dX3_keepInstances_17 rfl (lv_at hl 0 rfl) ?_
  refine lv_iconst (v := 0) hx hb dX3_keepInstances_18 (by decide) ?_
  refine va_iast (D := D) hx hb hK hP hD hS 1 0 rfl rfl (vp_in_iff.mpr (by decide)) dX3_keepInstances_19 (fun H locs hP hD hS => ?_)
  rw [wq_upd0] at hP hD
  have hP : va_P D vwCl [(x8, .inr (8, [.ref x1, .ref x9, .ref x10, .ref x12, .ref x14, .int 0, .ref x15, .ref x16, .ref x17, .int 0, .ref x18, .ref x19, .int 0, .int 0, .int 2, .int 0])), (x17, .inl (ty 0, 20, .inl (fun _ => 0))), (x1, .inr (11, [.ref x2, .int 0, .ref x3, .int 0, .ref x4, .ref x5, .int 1, .ref x6, .ref x7, .int 0]))] H := hP
  have hD : va_D A [(x8, .inr (8, [.ref x1, .ref x9, .ref x10, .ref x12, .ref x14, .int 0, .ref x15, .ref x16, .ref x17, .int 0, .ref x18, .ref x19, .int 0, .int 0, .int 2, .int 0])), (x17, .inl (ty 0, 20, .inl (fun _ => 0))), (x1, .inr (11, [.ref x2, .int 0, .ref x3, .int 0, .ref x4, .ref x5, .int 1, .ref x6, .ref x7, .int 0]))] := hD
  refine lv_aload_n hx hb dX3_keepInstances_20 rfl (lv_at hl 3 rfl) ?_
  refine va_get (D := D) (ci := 8) (v := .ref x1) (C := RX3) (T := TX3) (N := 16) hx hb hts iv_k_X3_keepInstances_X3 hown hK hP 0 rfl rfl 0 (by decide) (hts (.fieldLink RX3 47 "AnswerFold$Grounding" "program" "LAnswerFold$Program;") (by decide +kernel)) (fun _ h9 => h9) rfl dX3_keepInstances_21 ?_
  refine lv_iload_n hx hb dX3_keepInstances_24 rfl (lv_at hl 0 rfl) ?_
  refine wq_r (wc := [(x1, .inr (11, [.ref x2, .int 0, .ref x3, .int 0, .ref x4, .ref x5, .int 1, .ref x6, .ref x7, .int 0]))]) (wr := [(x8, .inr (8, [.ref x1, .ref x9, .ref x10, .ref x12, .ref x14, .int 0, .ref x15, .ref x16, .ref x17, .int 0, .ref x18, .ref x19, .int 0, .int 0, .int 2, .int 0])), (x17, .inl (ty 0, 20, .inl (fun _ => 0)))]) (va_runV (As := [.int 6]) (rest := []) ⟨hx, hb, hml, hown, hts⟩ (k_X6_ruleAt l D ty td mi H.size x1 x2 x3 x4 x5 x6 x7 6) (cwV 1 hts gv_k_X3_keepInstances_6 rfl rfl rfl (by decide +kernel) ⟨(Nat.le_of_ble_eq_true rfl), (Nat.le_of_ble_eq_true rfl)⟩) (wq_preV hP hD hK hE hS hA [2] rfl (by decide) 2 11 rfl rfl) rfl rfl hl.1 rfl (lv_room (Nat.le_of_ble_eq_true rfl)) dX3_keepInstances_25 ⟨(Nat.le_of_ble_eq_true rfl), (Nat.le_of_ble_eq_true rfl)⟩) hS hA hP hD [2] [0, 1] rfl rfl (by decide) (by decide) (fun r u H locs hw hP hD hS => ?_)
  obtain ⟨rfl, rfl⟩ := hw
  have hP : va_P D vwCl [(x8, .inr (8, [.ref x1, .ref x9, .ref x10, .ref x12, .ref x14, .int 0, .ref x15, .ref x16, .ref x17, .int 0, .ref x18, .ref x19, .int 0, .int 0, .int 2, .int 0])), (x17, .inl (ty 0, 20, .inl (fun _ => 0))), (x1, .inr (11, [.ref x2, .int 0, .ref x3, .int 0, .ref x4, .ref x5, .int 1, .ref x6, .ref x7, .int 0]))] H := hP
  have hD : va_D A [(x8, .inr (8, [.ref x1, .ref x9, .ref x10, .ref x12, .ref x14, .int 0, .ref x15, .ref x16, .ref x17, .int 0, .ref x18, .ref x19, .int 0, .int 0, .int 2, .int 0])), (x17, .inl (ty 0, 20, .inl (fun _ => 0))), (x1, .inr (11, [.ref x2, .int 0, .ref x3, .int 0, .ref x4, .ref x5, .int 1, .ref x6, .ref x7, .int 0]))] := hD
  refine W.widen (k := 0) (n := 0) (Nat.le_of_ble_eq_true rfl) (Nat.le_of_ble_eq_true rfl) ?_
  refine lv_astore_nN (lv' := [(2, .null), (1, .int 6), (3, .int 0), (0, .ref x8)]) hx hb dX3_keepInstances_28 rfl hl (by decide) rfl (fun ls hl => ?_)
  refine lv_iconst (v := 0) hx hb dX3_keepInstances_29 (by decide) ?_
  refine lv_istore_n (lv' := [(3, .int 0), (2, .null), (1, .int 6), (0, .ref x8)]) hx hb dX3_keepInstances_30 rfl hl (by decide) rfl (fun ls hl => ?_)
  refine lv_aload_nN hx hb dX3_keepInstances_31 rfl (lv_at hl 1 rfl) ?_
  refine lv_ifnullN (tgt := 70) hx hb dX3_keepInstances_32 (by decide) ?_
  refine lv_iinc (v := 7) (lv' := [(1, .int 7), (3, .int 0), (2, .null), (0, .ref x8)]) hx hb dX3_keepInstances_70 hl (k := 2) rfl (by decide) (by decide) rfl (fun ls hl => ?_)
  refine lv_goto (tgt := 7) hx hb dX3_keepInstances_73 (by decide) ?_
  refine lv_iload_n hx hb dX3_keepInstances_7 rfl (lv_at hl 0 rfl) ?_
  refine lv_bipush (v := 20) hx hb dX3_keepInstances_8 (by decide) ?_
  refine lv_icmp_ge (tgt := 76) hx hb dX3_keepInstances_10 (by decide) (fun c0 => absurd c0 (by decide)) (fun _ => ?_)
  refine lv_aload_n hx hb dX3_keepInstances_13 rfl (lv_at hl 3 rfl) ?_
  refine va_get (D := D) (ci := 8) (v := .ref x17) (C := RX3) (T := TX3) (N := 16) hx hb hts iv_k_X3_keepInstances_X3 hown hK hP 0 rfl rfl 8 (by decide) (hts (.fieldLink RX3 38 "AnswerFold$Grounding" "keptByRule" "[I") (by decide +kernel)) (fun _ h9 => h9) rfl dX3_keepInstances_14 ?_
  refine lv_iload_n hx hb dX3_keepInstances_17 rfl (lv_at hl 0 rfl) ?_
  refine lv_iconst (v := 0) hx hb dX3_keepInstances_18 (by decide) ?_
  refine va_iast (D := D) hx hb hK hP hD hS 1 0 rfl rfl (vp_in_iff.mpr (by decide)) dX3_keepInstances_19 (fun H locs hP hD hS => ?_)
  rw [wq_upd0] at hP hD
  have hP : va_P D vwCl [(x8, .inr (8, [.ref x1, .ref x9, .ref x10, .ref x12, .ref x14, .int 0, .ref x15, .ref x16, .ref x17, .int 0, .ref x18, .ref x19, .int 0, .int 0, .int 2, .int 0])), (x17, .inl (ty 0, 20, .inl (fun _ => 0))), (x1, .inr (11, [.ref x2, .int 0, .ref x3, .int 0, .ref x4, .ref x5, .int 1, .ref x6, .ref x7, .int 0]))] H := hP
  have hD : va_D A [(x8, .inr (8, [.ref x1, .ref x9, .ref x10, .ref x12, .ref x14, .int 0, .ref x15, .ref x16, .ref x17, .int 0, .ref x18, .ref x19, .int 0, .int 0, .int 2, .int 0])), (x17, .inl (ty 0, 20, .inl (fun _ => 0))), (x1, .inr (11, [.ref x2, .int 0, .ref x3, .int 0, .ref x4, .ref x5, .int 1, .ref x6, .ref x7, .int 0]))] := hD
  refine lv_aload_n hx hb dX3_keepInstances_20 rfl (lv_at hl 3 rfl) ?_
  refine va_get (D := D) (ci := 8) (v := .ref x1) (C := RX3) (T := TX3) (N := 16) hx hb hts iv_k_X3_keepInstances_X3 hown hK hP 0 rfl rfl 0 (by decide) (hts (.fieldLink RX3 47 "AnswerFold$Grounding" "program" "LAnswerFold$Program;") (by decide +kernel)) (fun _ h9 => h9) rfl dX3_keepInstances_21 ?_
  refine lv_iload_n hx hb dX3_keepInstances_24 rfl (lv_at hl 0 rfl) ?_
  refine wq_r (wc := [(x1, .inr (11, [.ref x2, .int 0, .ref x3, .int 0, .ref x4, .ref x5, .int 1, .ref x6, .ref x7, .int 0]))]) (wr := [(x8, .inr (8, [.ref x1, .ref x9, .ref x10, .ref x12, .ref x14, .int 0, .ref x15, .ref x16, .ref x17, .int 0, .ref x18, .ref x19, .int 0, .int 0, .int 2, .int 0])), (x17, .inl (ty 0, 20, .inl (fun _ => 0)))]) (va_runV (As := [.int 7]) (rest := []) ⟨hx, hb, hml, hown, hts⟩ (k_X6_ruleAt l D ty td mi H.size x1 x2 x3 x4 x5 x6 x7 7) (cwV 1 hts gv_k_X3_keepInstances_7 rfl rfl rfl (by decide +kernel) ⟨(Nat.le_of_ble_eq_true rfl), (Nat.le_of_ble_eq_true rfl)⟩) (wq_preV hP hD hK hE hS hA [2] rfl (by decide) 2 11 rfl rfl) rfl rfl hl.1 rfl (lv_room (Nat.le_of_ble_eq_true rfl)) dX3_keepInstances_25 ⟨(Nat.le_of_ble_eq_true rfl), (Nat.le_of_ble_eq_true rfl)⟩) hS hA hP hD [2] [0, 1] rfl rfl (by decide) (by decide) (fun r u H locs hw hP hD hS => ?_)
  obtain ⟨rfl, rfl⟩ := hw
  have hP : va_P D vwCl [(x8, .inr (8, [.ref x1, .ref x9, .ref x10, .ref x12, .ref x14, .int 0, .ref x15, .ref x16, .ref x17, .int 0, .ref x18, .ref x19, .int 0, .int 0, .int 2, .int 0])), (x17, .inl (ty 0, 20, .inl (fun _ => 0))), (x1, .inr (11, [.ref x2, .int 0, .ref x3, .int 0, .ref x4, .ref x5, .int 1, .ref x6, .ref x7, .int 0]))] H := hP
  have hD : va_D A [(x8, .inr (8, [.ref x1, .ref x9, .ref x10, .ref x12, .ref x14, .int 0, .ref x15, .ref x16, .ref x17, .int 0, .ref x18, .ref x19, .int 0, .int 0, .int 2, .int 0])), (x17, .inl (ty 0, 20, .inl (fun _ => 0))), (x1, .inr (11, [.ref x2, .int 0, .ref x3, .int 0, .ref x4, .ref x5, .int 1, .ref x6, .ref x7, .int 0]))] := hD
  refine W.widen (k := 0) (n := 0) (Nat.le_of_ble_eq_true rfl) (Nat.le_of_ble_eq_true rfl) ?_
  refine lv_astore_nN (lv' := [(2, .null), (1, .int 7), (3, .int 0), (0, .ref x8)]) hx hb dX3_keepInstances_28 rfl hl (by decide) rfl (fun ls hl => ?_)
  refine lv_iconst (v := 0) hx hb dX3_keepInstances_29 (by decide) ?_
  refine lv_istore_n (lv' := [(3, .int 0), (2, .null), (1, .int 7), (0, .ref x8)]) hx hb dX3_keepInstances_30 rfl hl (by decide) rfl (fun ls hl => ?_)
  refine lv_aload_nN hx hb dX3_keepInstances_31 rfl (lv_at hl 1 rfl) ?_
  refine lv_ifnullN (tgt := 70) hx hb dX3_keepInstances_32 (by decide) ?_
  refine lv_iinc (v := 8) (lv' := [(1, .int 8), (3, .int 0), (2, .null), (0, .ref x8)]) hx hb dX3_keepInstances_70 hl (k := 2) rfl (by decide) (by decide) rfl (fun ls hl => ?_)
  refine lv_goto (tgt := 7) hx hb dX3_keepInstances_73 (by decide) ?_
  refine lv_iload_n hx hb dX3_keepInstances_7 rfl (lv_at hl 0 rfl) ?_
  refine lv_bipush (v := 20) hx hb dX3_keepInstances_8 (by decide) ?_
  refine lv_icmp_ge (tgt := 76) hx hb dX3_keepInstances_10 (by decide) (fun c0 => absurd c0 (by decide)) (fun _ => ?_)
  refine lv_aload_n hx hb dX3_keepInstances_13 rfl (lv_at hl 3 rfl) ?_
  refine va_get (D := D) (ci := 8) (v := .ref x17) (C := RX3) (T := TX3) (N := 16) hx hb hts iv_k_X3_keepInstances_X3 hown hK hP 0 rfl rfl 8 (by decide) (hts (.fieldLink RX3 38 "AnswerFold$Grounding" "keptByRule" "[I") (by decide +kernel)) (fun _ h9 => h9) rfl dX3_keepInstances_14 ?_
  refine lv_iload_n hx hb dX3_keepInstances_17 rfl (lv_at hl 0 rfl) ?_
  refine lv_iconst (v := 0) hx hb dX3_keepInstances_18 (by decide) ?_
  refine va_iast (D := D) hx hb hK hP hD hS 1 0 rfl rfl (vp_in_iff.mpr (by decide)) dX3_keepInstances_19 (fun H locs hP hD hS => ?_)
  rw [wq_upd0] at hP hD
  have hP : va_P D vwCl [(x8, .inr (8, [.ref x1, .ref x9, .ref x10, .ref x12, .ref x14, .int 0, .ref x15, .ref x16, .ref x17, .int 0, .ref x18, .ref x19, .int 0, .int 0, .int 2, .int 0])), (x17, .inl (ty 0, 20, .inl (fun _ => 0))), (x1, .inr (11, [.ref x2, .int 0, .ref x3, .int 0, .ref x4, .ref x5, .int 1, .ref x6, .ref x7, .int 0]))] H := hP
  have hD : va_D A [(x8, .inr (8, [.ref x1, .ref x9, .ref x10, .ref x12, .ref x14, .int 0, .ref x15, .ref x16, .ref x17, .int 0, .ref x18, .ref x19, .int 0, .int 0, .int 2, .int 0])), (x17, .inl (ty 0, 20, .inl (fun _ => 0))), (x1, .inr (11, [.ref x2, .int 0, .ref x3, .int 0, .ref x4, .ref x5, .int 1, .ref x6, .ref x7, .int 0]))] := hD
  refine lv_aload_n hx hb dX3_keepInstances_20 rfl (lv_at hl 3 rfl) ?_
  refine va_get (D := D) (ci := 8) (v := .ref x1) (C := RX3) (T := TX3) (N := 16) hx hb hts iv_k_X3_keepInstances_X3 hown hK hP 0 rfl rfl 0 (by decide) (hts (.fieldLink RX3 47 "AnswerFold$Grounding" "program" "LAnswerFold$Program;") (by decide +kernel)) (fun _ h9 => h9) rfl dX3_keepInstances_21 ?_
  refine lv_iload_n hx hb dX3_keepInstances_24 rfl (lv_at hl 0 rfl) ?_
  refine wq_r (wc := [(x1, .inr (11, [.ref x2, .int 0, .ref x3, .int 0, .ref x4, .ref x5, .int 1, .ref x6, .ref x7, .int 0]))]) (wr := [(x8, .inr (8, [.ref x1, .ref x9, .ref x10, .ref x12, .ref x14, .int 0, .ref x15, .ref x16, .ref x17, .int 0, .ref x18, .ref x19, .int 0, .int 0, .int 2, .int 0])), (x17, .inl (ty 0, 20, .inl (fun _ => 0)))]) (va_runV (As := [.int 8]) (rest := []) ⟨hx, hb, hml, hown, hts⟩ (k_X6_ruleAt l D ty td mi H.size x1 x2 x3 x4 x5 x6 x7 8) (cwV 1 hts gv_k_X3_keepInstances_8 rfl rfl rfl (by decide +kernel) ⟨(Nat.le_of_ble_eq_true rfl), (Nat.le_of_ble_eq_true rfl)⟩) (wq_preV hP hD hK hE hS hA [2] rfl (by decide) 2 11 rfl rfl) rfl rfl hl.1 rfl (lv_room (Nat.le_of_ble_eq_true rfl)) dX3_keepInstances_25 ⟨(Nat.le_of_ble_eq_true rfl), (Nat.le_of_ble_eq_true rfl)⟩) hS hA hP hD [2] [0, 1] rfl rfl (by decide) (by decide) (fun r u H locs hw hP hD hS => ?_)
  obtain ⟨rfl, rfl⟩ := hw
  have hP : va_P D vwCl [(x8, .inr (8, [.ref x1, .ref x9, .ref x10, .ref x12, .ref x14, .int 0, .ref x15, .ref x16, .ref x17, .int 0, .ref x18, .ref x19, .int 0, .int 0, .int 2, .int 0])), (x17, .inl (ty 0, 20, .inl (fun _ => 0))), (x1, .inr (11, [.ref x2, .int 0, .ref x3, .int 0, .ref x4, .ref x5, .int 1, .ref x6, .ref x7, .int 0]))] H := hP
  have hD : va_D A [(x8, .inr (8, [.ref x1, .ref x9, .ref x10, .ref x12, .ref x14, .int 0, .ref x15, .ref x16, .ref x17, .int 0, .ref x18, .ref x19, .int 0, .int 0, .int 2, .int 0])), (x17, .inl (ty 0, 20, .inl (fun _ => 0))), (x1, .inr (11, [.ref x2, .int 0, .ref x3, .int 0, .ref x4, .ref x5, .int 1, .ref x6, .ref x7, .int 0]))] := hD
  refine W.widen (k := 0) (n := 0) (Nat.le_of_ble_eq_true rfl) (Nat.le_of_ble_eq_true rfl) ?_
  refine lv_astore_nN (lv' := [(2, .null), (1, .int 8), (3, .int 0), (0, .ref x8)]) hx hb dX3_keepInstances_28 rfl hl (by decide) rfl (fun ls hl => ?_)
  refine lv_iconst (v := 0) hx hb dX3_keepInstances_29 (by decide) ?_
  refine lv_istore_n (lv' := [(3, .int 0), (2, .null), (1, .int 8), (0, .ref x8)]) hx hb dX3_keepInstances_30 rfl hl (by decide) rfl (fun ls hl => ?_)
  refine lv_aload_nN hx hb dX3_keepInstances_31 rfl (lv_at hl 1 rfl) ?_
  refine lv_ifnullN (tgt := 70) hx hb dX3_keepInstances_32 (by decide) ?_
  refine lv_iinc (v := 9) (lv' := [(1, .int 9), (3, .int 0), (2, .null), (0, .ref x8)]) hx hb dX3_keepInstances_70 hl (k := 2) rfl (by decide) (by decide) rfl (fun ls hl => ?_)
  refine lv_goto (tgt := 7) hx hb dX3_keepInstances_73 (by decide) ?_
  refine lv_iload_n hx hb dX3_keepInstances_7 rfl (lv_at hl 0 rfl) ?_
  refine lv_bipush (v := 20) hx hb dX3_keepInstances_8 (by decide) ?_
  refine lv_icmp_ge (tgt := 76) hx hb dX3_keepInstances_10 (by decide) (fun c0 => absurd c0 (by decide)) (fun _ => ?_)
  refine lv_aload_n hx hb dX3_keepInstances_13 rfl (lv_at hl 3 rfl) ?_
  refine va_get (D := D) (ci := 8) (v := .ref x17) (C := RX3) (T := TX3) (N := 16) hx hb hts iv_k_X3_keepInstances_X3 hown hK hP 0 rfl rfl 8 (by decide) (hts (.fieldLink RX3 38 "AnswerFold$Grounding" "keptByRule" "[I") (by decide +kernel)) (fun _ h9 => h9) rfl dX3_keepInstances_14 ?_
  refine lv_iload_n hx hb dX3_keepInstances_17 rfl (lv_at hl 0 rfl) ?_
  refine lv_iconst (v := 0) hx hb dX3_keepInstances_18 (by decide) ?_
  refine va_iast (D := D) hx hb hK hP hD hS 1 0 rfl rfl (vp_in_iff.mpr (by decide)) dX3_keepInstances_19 (fun H locs hP hD hS => ?_)
  rw [wq_upd0] at hP hD
  have hP : va_P D vwCl [(x8, .inr (8, [.ref x1, .ref x9, .ref x10, .ref x12, .ref x14, .int 0, .ref x15, .ref x16, .ref x17, .int 0, .ref x18, .ref x19, .int 0, .int 0, .int 2, .int 0])), (x17, .inl (ty 0, 20, .inl (fun _ => 0))), (x1, .inr (11, [.ref x2, .int 0, .ref x3, .int 0, .ref x4, .ref x5, .int 1, .ref x6, .ref x7, .int 0]))] H := hP
  have hD : va_D A [(x8, .inr (8, [.ref x1, .ref x9, .ref x10, .ref x12, .ref x14, .int 0, .ref x15, .ref x16, .ref x17, .int 0, .ref x18, .ref x19, .int 0, .int 0, .int 2, .int 0])), (x17, .inl (ty 0, 20, .inl (fun _ => 0))), (x1, .inr (11, [.ref x2, .int 0, .ref x3, .int 0, .ref x4, .ref x5, .int 1, .ref x6, .ref x7, .int 0]))] := hD
  refine lv_aload_n hx hb dX3_keepInstances_20 rfl (lv_at hl 3 rfl) ?_
  refine va_get (D := D) (ci := 8) (v := .ref x1) (C := RX3) (T := TX3) (N := 16) hx hb hts iv_k_X3_keepInstances_X3 hown hK hP 0 rfl rfl 0 (by decide) (hts (.fieldLink RX3 47 "AnswerFold$Grounding" "program" "LAnswerFold$Program;") (by decide +kernel)) (fun _ h9 => h9) rfl dX3_keepInstances_21 ?_
  refine lv_iload_n hx hb dX3_keepInstances_24 rfl (lv_at hl 0 rfl) ?_
  refine wq_r (wc := [(x1, .inr (11, [.ref x2, .int 0, .ref x3, .int 0, .ref x4, .ref x5, .int 1, .ref x6, .ref x7, .int 0]))]) (wr := [(x8, .inr (8, [.ref x1, .ref x9, .ref x10, .ref x12, .ref x14, .int 0, .ref x15, .ref x16, .ref x17, .int 0, .ref x18, .ref x19, .int 0, .int 0, .int 2, .int 0])), (x17, .inl (ty 0, 20, .inl (fun _ => 0)))]) (va_runV (As := [.int 9]) (rest := []) ⟨hx, hb, hml, hown, hts⟩ (k_X6_ruleAt l D ty td mi H.size x1 x2 x3 x4 x5 x6 x7 9) (cwV 1 hts gv_k_X3_keepInstances_9 rfl rfl rfl (by decide +kernel) ⟨(Nat.le_of_ble_eq_true rfl), (Nat.le_of_ble_eq_true rfl)⟩) (wq_preV hP hD hK hE hS hA [2] rfl (by decide) 2 11 rfl rfl) rfl rfl hl.1 rfl (lv_room (Nat.le_of_ble_eq_true rfl)) dX3_keepInstances_25 ⟨(Nat.le_of_ble_eq_true rfl), (Nat.le_of_ble_eq_true rfl)⟩) hS hA hP hD [2] [0, 1] rfl rfl (by decide) (by decide) (fun r u H locs hw hP hD hS => ?_)
  obtain ⟨rfl, rfl⟩ := hw
  have hP : va_P D vwCl [(x8, .inr (8, [.ref x1, .ref x9, .ref x10, .ref x12, .ref x14, .int 0, .ref x15, .ref x16, .ref x17, .int 0, .ref x18, .ref x19, .int 0, .int 0, .int 2, .int 0])), (x17, .inl (ty 0, 20, .inl (fun _ => 0))), (x1, .inr (11, [.ref x2, .int 0, .ref x3, .int 0, .ref x4, .ref x5, .int 1, .ref x6, .ref x7, .int 0]))] H := hP
  have hD : va_D A [(x8, .inr (8, [.ref x1, .ref x9, .ref x10, .ref x12, .ref x14, .int 0, .ref x15, .ref x16, .ref x17, .int 0, .ref x18, .ref x19, .int 0, .int 0, .int 2, .int 0])), (x17, .inl (ty 0, 20, .inl (fun _ => 0))), (x1, .inr (11, [.ref x2, .int 0, .ref x3, .int 0, .ref x4, .ref x5, .int 1, .ref x6, .ref x7, .int 0]))] := hD
  refine W.widen (k := 0) (n := 0) (Nat.le_of_ble_eq_true rfl) (Nat.le_of_ble_eq_true rfl) ?_
  refine lv_astore_nN (lv' := [(2, .null), (1, .int 9), (3, .int 0), (0, .ref x8)]) hx hb dX3_keepInstances_28 rfl hl (by decide) rfl (fun ls hl => ?_)
  refine lv_iconst (v := 0) hx hb dX3_keepInstances_29 (by decide) ?_
  refine lv_istore_n (lv' := [(3, .int 0), (2, .null), (1, .int 9), (0, .ref x8)]) hx hb dX3_keepInstances_30 rfl hl (by decide) rfl (fun ls hl => ?_)
  refine lv_aload_nN hx hb dX3_keepInstances_31 rfl (lv_at hl 1 rfl) ?_
  refine lv_ifnullN (tgt := 70) hx hb dX3_keepInstances_32 (by decide) ?_
  refine lv_iinc (v := 10) (lv' := [(1, .int 10), (3, .int 0), (2, .null), (0, .ref x8)]) hx hb dX3_keepInstances_70 hl (k := 2) rfl (by decide) (by decide) rfl (fun ls hl => ?_)
  refine lv_goto (tgt := 7) hx hb dX3_keepInstances_73 (by decide) ?_
  refine lv_iload_n hx hb dX3_keepInstances_7 rfl (lv_at hl 0 rfl) ?_
  refine lv_bipush (v := 20) hx hb dX3_keepInstances_8 (by decide) ?_
  refine lv_icmp_ge (tgt := 76) hx hb dX3_keepInstances_10 (by decide) (fun c0 => absurd c0 (by decide)) (fun _ => ?_)
  refine lv_aload_n hx hb dX3_keepInstances_13 rfl (lv_at hl 3 rfl) ?_
  refine va_get (D := D) (ci := 8) (v := .ref x17) (C := RX3) (T := TX3) (N := 16) hx hb hts iv_k_X3_keepInstances_X3 hown hK hP 0 rfl rfl 8 (by decide) (hts (.fieldLink RX3 38 "AnswerFold$Grounding" "keptByRule" "[I") (by decide +kernel)) (fun _ h9 => h9) rfl dX3_keepInstances_14 ?_
  refine lv_iload_n hx hb dX3_keepInstances_17 rfl (lv_at hl 0 rfl) ?_
  refine lv_iconst (v := 0) hx hb dX3_keepInstances_18 (by decide) ?_
  refine va_iast (D := D) hx hb hK hP hD hS 1 0 rfl rfl (vp_in_iff.mpr (by decide)) dX3_keepInstances_19 (fun H locs hP hD hS => ?_)
  rw [wq_upd0] at hP hD
  have hP : va_P D vwCl [(x8, .inr (8, [.ref x1, .ref x9, .ref x10, .ref x12, .ref x14, .int 0, .ref x15, .ref x16, .ref x17, .int 0, .ref x18, .ref x19, .int 0, .int 0, .int 2, .int 0])), (x17, .inl (ty 0, 20, .inl (fun _ => 0))), (x1, .inr (11, [.ref x2, .int 0, .ref x3, .int 0, .ref x4, .ref x5, .int 1, .ref x6, .ref x7, .int 0]))] H := hP
  have hD : va_D A [(x8, .inr (8, [.ref x1, .ref x9, .ref x10, .ref x12, .ref x14, .int 0, .ref x15, .ref x16, .ref x17, .int 0, .ref x18, .ref x19, .int 0, .int 0, .int 2, .int 0])), (x17, .inl (ty 0, 20, .inl (fun _ => 0))), (x1, .inr (11, [.ref x2, .int 0, .ref x3, .int 0, .ref x4, .ref x5, .int 1, .ref x6, .ref x7, .int 0]))] := hD
  refine lv_aload_n hx hb dX3_keepInstances_20 rfl (lv_at hl 3 rfl) ?_
  refine va_get (D := D) (ci := 8) (v := .ref x1) (C := RX3) (T := TX3) (N := 16) hx hb hts iv_k_X3_keepInstances_X3 hown hK hP 0 rfl rfl 0 (by decide) (hts (.fieldLink RX3 47 "AnswerFold$Grounding" "program" "LAnswerFold$Program;") (by decide +kernel)) (fun _ h9 => h9) rfl dX3_keepInstances_21 ?_
  refine lv_iload_n hx hb dX3_keepInstances_24 rfl (lv_at hl 0 rfl) ?_
  refine wq_r (wc := [(x1, .inr (11, [.ref x2, .int 0, .ref x3, .int 0, .ref x4, .ref x5, .int 1, .ref x6, .ref x7, .int 0]))]) (wr := [(x8, .inr (8, [.ref x1, .ref x9, .ref x10, .ref x12, .ref x14, .int 0, .ref x15, .ref x16, .ref x17, .int 0, .ref x18, .ref x19, .int 0, .int 0, .int 2, .int 0])), (x17, .inl (ty 0, 20, .inl (fun _ => 0)))]) (va_runV (As := [.int 10]) (rest := []) ⟨hx, hb, hml, hown, hts⟩ (k_X6_ruleAt l D ty td mi H.size x1 x2 x3 x4 x5 x6 x7 10) (cwV 1 hts gv_k_X3_keepInstances_10 rfl rfl rfl (by decide +kernel) ⟨(Nat.le_of_ble_eq_true rfl), (Nat.le_of_ble_eq_true rfl)⟩) (wq_preV hP hD hK hE hS hA [2] rfl (by decide) 2 11 rfl rfl) rfl rfl hl.1 rfl (lv_room (Nat.le_of_ble_eq_true rfl)) dX3_keepInstances_25 ⟨(Nat.le_of_ble_eq_true rfl), (Nat.le_of_ble_eq_true rfl)⟩) hS hA hP hD [2] [0, 1] rfl rfl (by decide) (by decide) (fun r u H locs hw hP hD hS => ?_)
  obtain ⟨rfl, rfl⟩ := hw
  have hP : va_P D vwCl [(x8, .inr (8, [.ref x1, .ref x9, .ref x10, .ref x12, .ref x14, .int 0, .ref x15, .ref x16, .ref x17, .int 0, .ref x18, .ref x19, .int 0, .int 0, .int 2, .int 0])), (x17, .inl (ty 0, 20, .inl (fun _ => 0))), (x1, .inr (11, [.ref x2, .int 0, .ref x3, .int 0, .ref x4, .ref x5, .int 1, .ref x6, .ref x7, .int 0]))] H := hP
  have hD : va_D A [(x8, .inr (8, [.ref x1, .ref x9, .ref x10, .ref x12, .ref x14, .int 0, .ref x15, .ref x16, .ref x17, .int 0, .ref x18, .ref x19, .int 0, .int 0, .int 2, .int 0])), (x17, .inl (ty 0, 20, .inl (fun _ => 0))), (x1, .inr (11, [.ref x2, .int 0, .ref x3, .int 0, .ref x4, .ref x5, .int 1, .ref x6, .ref x7, .int 0]))] := hD
  refine W.widen (k := 0) (n := 0) (Nat.le_of_ble_eq_true rfl) (Nat.le_of_ble_eq_true rfl) ?_
  refine lv_astore_nN (lv' := [(2, .null), (1, .int 10), (3, .int 0), (0, .ref x8)]) hx hb dX3_keepInstances_28 rfl hl (by decide) rfl (fun ls hl => ?_)
  refine lv_iconst (v := 0) hx hb dX3_keepInstances_29 (by decide) ?_
  refine lv_istore_n (lv' := [(3, .int 0), (2, .null), (1, .int 10), (0, .ref x8)]) hx hb dX3_keepInstances_30 rfl hl (by decide) rfl (fun ls hl => ?_)
  refine lv_aload_nN hx hb dX3_keepInstances_31 rfl (lv_at hl 1 rfl) ?_
  refine lv_ifnullN (tgt := 70) hx hb dX3_keepInstances_32 (by decide) ?_
  refine lv_iinc (v := 11) (lv' := [(1, .int 11), (3, .int 0), (2, .null), (0, .ref x8)]) hx hb dX3_keepInstances_70 hl (k := 2) rfl (by decide) (by decide) rfl (fun ls hl => ?_)
  refine lv_goto (tgt := 7) hx hb dX3_keepInstances_73 (by decide) ?_
  refine lv_iload_n hx hb dX3_keepInstances_7 rfl (lv_at hl 0 rfl) ?_
  refine lv_bipush (v := 20) hx hb dX3_keepInstances_8 (by decide) ?_
  refine lv_icmp_ge (tgt := 76) hx hb dX3_keepInstances_10 (by decide) (fun c0 => absurd c0 (by decide)) (fun _ => ?_)
  refine lv_aload_n hx hb dX3_keepInstances_13 rfl (lv_at hl 3 rfl) ?_
  refine va_get (D := D) (ci := 8) (v := .ref x17) (C := RX3) (T := TX3) (N := 16) hx hb hts iv_k_X3_keepInstances_X3 hown hK hP 0 rfl rfl 8 (by decide) (hts (.fieldLink RX3 38 "AnswerFold$Grounding" "keptByRule" "[I") (by decide +kernel)) (fun _ h9 => h9) rfl dX3_keepInstances_14 ?_
  refine lv_iload_n hx hb dX3_keepInstances_17 rfl (lv_at hl 0 rfl) ?_
  refine lv_iconst (v := 0) hx hb dX3_keepInstances_18 (by decide) ?_
  refine va_iast (D := D) hx hb hK hP hD hS 1 0 rfl rfl (vp_in_iff.mpr (by decide)) dX3_keepInstances_19 (fun H locs hP hD hS => ?_)
  rw [wq_upd0] at hP hD
  have hP : va_P D vwCl [(x8, .inr (8, [.ref x1, .ref x9, .ref x10, .ref x12, .ref x14, .int 0, .ref x15, .ref x16, .ref x17, .int 0, .ref x18, .ref x19, .int 0, .int 0, .int 2, .int 0])), (x17, .inl (ty 0, 20, .inl (fun _ => 0))), (x1, .inr (11, [.ref x2, .int 0, .ref x3, .int 0, .ref x4, .ref x5, .int 1, .ref x6, .ref x7, .int 0]))] H := hP
  have hD : va_D A [(x8, .inr (8, [.ref x1, .ref x9, .ref x10, .ref x12, .ref x14, .int 0, .ref x15, .ref x16, .ref x17, .int 0, .ref x18, .ref x19, .int 0, .int 0, .int 2, .int 0])), (x17, .inl (ty 0, 20, .inl (fun _ => 0))), (x1, .inr (11, [.ref x2, .int 0, .ref x3, .int 0, .ref x4, .ref x5, .int 1, .ref x6, .ref x7, .int 0]))] := hD
  refine lv_aload_n hx hb dX3_keepInstances_20 rfl (lv_at hl 3 rfl) ?_
  refine va_get (D := D) (ci := 8) (v := .ref x1) (C := RX3) (T := TX3) (N := 16) hx hb hts iv_k_X3_keepInstances_X3 hown hK hP 0 rfl rfl 0 (by decide) (hts (.fieldLink RX3 47 "AnswerFold$Grounding" "program" "LAnswerFold$Program;") (by decide +kernel)) (fun _ h9 => h9) rfl dX3_keepInstances_21 ?_
  refine lv_iload_n hx hb dX3_keepInstances_24 rfl (lv_at hl 0 rfl) ?_
  refine wq_r (wc := [(x1, .inr (11, [.ref x2, .int 0, .ref x3, .int 0, .ref x4, .ref x5, .int 1, .ref x6, .ref x7, .int 0]))]) (wr := [(x8, .inr (8, [.ref x1, .ref x9, .ref x10, .ref x12, .ref x14, .int 0, .ref x15, .ref x16, .ref x17, .int 0, .ref x18, .ref x19, .int 0, .int 0, .int 2, .int 0])), (x17, .inl (ty 0, 20, .inl (fun _ => 0)))]) (va_runV (As := [.int 11]) (rest := []) ⟨hx, hb, hml, hown, hts⟩ (k_X6_ruleAt l D ty td mi H.size x1 x2 x3 x4 x5 x6 x7 11) (cwV 1 hts gv_k_X3_keepInstances_11 rfl rfl rfl (by decide +kernel) ⟨(Nat.le_of_ble_eq_true rfl), (Nat.le_of_ble_eq_true rfl)⟩) (wq_preV hP hD hK hE hS hA [2] rfl (by decide) 2 11 rfl rfl) rfl rfl hl.1 rfl (lv_room (Nat.le_of_ble_eq_true rfl)) dX3_keepInstances_25 ⟨(Nat.le_of_ble_eq_true rfl), (Nat.le_of_ble_eq_true rfl)⟩) hS hA hP hD [2] [0, 1] rfl rfl (by decide) (by decide) (fun r u H locs hw hP hD hS => ?_)
  obtain ⟨rfl, rfl⟩ := hw
  have hP : va_P D vwCl [(x8, .inr (8, [.ref x1, .ref x9, .ref x10, .ref x12, .ref x14, .int 0, .ref x15, .ref x16, .ref x17, .int 0, .ref x18, .ref x19, .int 0, .int 0, .int 2, .int 0])), (x17, .inl (ty 0, 20, .inl (fun _ => 0))), (x1, .inr (11, [.ref x2, .int 0, .ref x3, .int 0, .ref x4, .ref x5, .int 1, .ref x6, .ref x7, .int 0]))] H := hP
  have hD : va_D A [(x8, .inr (8, [.ref x1, .ref x9, .ref x10, .ref x12, .ref x14, .int 0, .ref x15, .ref x16, .ref x17, .int 0, .ref x18, .ref x19, .int 0, .int 0, .int 2, .int 0])), (x17, .inl (ty 0, 20, .inl (fun _ => 0))), (x1, .inr (11, [.ref x2, .int 0, .ref x3, .int 0, .ref x4, .ref x5, .int 1, .ref x6, .ref x7, .int 0]))] := hD
  refine W.widen (k := 0) (n := 0) (Nat.le_of_ble_eq_true rfl) (Nat.le_of_ble_eq_true rfl) ?_
  refine lv_astore_nN (lv' := [(2, .null), (1, .int 11), (3, .int 0), (0, .ref x8)]) hx hb dX3_keepInstances_28 rfl hl (by decide) rfl (fun ls hl => ?_)
  refine lv_iconst (v := 0) hx hb dX3_keepInstances_29 (by decide) ?_
  refine lv_istore_n (lv' := [(3, .int 0), (2, .null), (1, .int 11), (0, .ref x8)]) hx hb dX3_keepInstances_30 rfl hl (by decide) rfl (fun ls hl => ?_)
  refine lv_aload_nN hx hb dX3_keepInstances_31 rfl (lv_at hl 1 rfl) ?_
  refine lv_ifnullN (tgt := 70) hx hb dX3_keepInstances_32 (by decide) ?_
  refine lv_iinc (v := 12) (lv' := [(1, .int 12), (3, .int 0), (2, .null), (0, .ref x8)]) hx hb dX3_keepInstances_70 hl (k := 2) rfl (by decide) (by decide) rfl (fun ls hl => ?_)
  refine lv_goto (tgt := 7) hx hb dX3_keepInstances_73 (by decide) ?_
  refine lv_iload_n hx hb dX3_keepInstances_7 rfl (lv_at hl 0 rfl) ?_
  refine lv_bipush (v := 20) hx hb dX3_keepInstances_8 (by decide) ?_
  refine lv_icmp_ge (tgt := 76) hx hb dX3_keepInstances_10 (by decide) (fun c0 => absurd c0 (by decide)) (fun _ => ?_)
  refine lv_aload_n hx hb dX3_keepInstances_13 rfl (lv_at hl 3 rfl) ?_
  refine va_get (D := D) (ci := 8) (v := .ref x17) (C := RX3) (T := TX3) (N := 16) hx hb hts iv_k_X3_keepInstances_X3 hown hK hP 0 rfl rfl 8 (by decide) (hts (.fieldLink RX3 38 "AnswerFold$Grounding" "keptByRule" "[I") (by decide +kernel)) (fun _ h9 => h9) rfl dX3_keepInstances_14 ?_
  refine lv_iload_n hx hb dX3_keepInstances_17 rfl (lv_at hl 0 rfl) ?_
  refine lv_iconst (v := 0) hx hb dX3_keepInstances_18 (by decide) ?_
  refine va_iast (D := D) hx hb hK hP hD hS 1 0 rfl rfl (vp_in_iff.mpr (by decide)) dX3_keepInstances_19 (fun H locs hP hD hS => ?_)
  rw [wq_upd0] at hP hD
  have hP : va_P D vwCl [(x8, .inr (8, [.ref x1, .ref x9, .ref x10, .ref x12, .ref x14, .int 0, .ref x15, .ref x16, .ref x17, .int 0, .ref x18, .ref x19, .int 0, .int 0, .int 2, .int 0])), (x17, .inl (ty 0, 20, .inl (fun _ => 0))), (x1, .inr (11, [.ref x2, .int 0, .ref x3, .int 0, .ref x4, .ref x5, .int 1, .ref x6, .ref x7, .int 0]))] H := hP
  have hD : va_D A [(x8, .inr (8, [.ref x1, .ref x9, .ref x10, .ref x12, .ref x14, .int 0, .ref x15, .ref x16, .ref x17, .int 0, .ref x18, .ref x19, .int 0, .int 0, .int 2, .int 0])), (x17, .inl (ty 0, 20, .inl (fun _ => 0))), (x1, .inr (11, [.ref x2, .int 0, .ref x3, .int 0, .ref x4, .ref x5, .int 1, .ref x6, .ref x7, .int 0]))] := hD
  refine lv_aload_n hx hb dX3_keepInstances_20 rfl (lv_at hl 3 rfl) ?_
  refine va_get (D := D) (ci := 8) (v := .ref x1) (C := RX3) (T := TX3) (N := 16) hx hb hts iv_k_X3_keepInstances_X3 hown hK hP 0 rfl rfl 0 (by decide) (hts (.fieldLink RX3 47 "AnswerFold$Grounding" "program" "LAnswerFold$Program;") (by decide +kernel)) (fun _ h9 => h9) rfl dX3_keepInstances_21 ?_
  refine lv_iload_n hx hb dX3_keepInstances_24 rfl (lv_at hl 0 rfl) ?_
  refine wq_r (wc := [(x1, .inr (11, [.ref x2, .int 0, .ref x3, .int 0, .ref x4, .ref x5, .int 1, .ref x6, .ref x7, .int 0]))]) (wr := [(x8, .inr (8, [.ref x1, .ref x9, .ref x10, .ref x12, .ref x14, .int 0, .ref x15, .ref x16, .ref x17, .int 0, .ref x18, .ref x19, .int 0, .int 0, .int 2, .int 0])), (x17, .inl (ty 0, 20, .inl (fun _ => 0)))]) (va_runV (As := [.int 12]) (rest := []) ⟨hx, hb, hml, hown, hts⟩ (k_X6_ruleAt l D ty td mi H.size x1 x2 x3 x4 x5 x6 x7 12) (cwV 1 hts gv_k_X3_keepInstances_12 rfl rfl rfl (by decide +kernel) ⟨(Nat.le_of_ble_eq_true rfl), (Nat.le_of_ble_eq_true rfl)⟩) (wq_preV hP hD hK hE hS hA [2] rfl (by decide) 2 11 rfl rfl) rfl rfl hl.1 rfl (lv_room (Nat.le_of_ble_eq_true rfl)) dX3_keepInstances_25 ⟨(Nat.le_of_ble_eq_true rfl), (Nat.le_of_ble_eq_true rfl)⟩) hS hA hP hD [2] [0, 1] rfl rfl (by decide) (by decide) (fun r u H locs hw hP hD hS => ?_)
  obtain ⟨rfl, rfl⟩ := hw
  have hP : va_P D vwCl [(x8, .inr (8, [.ref x1, .ref x9, .ref x10, .ref x12, .ref x14, .int 0, .ref x15, .ref x16, .ref x17, .int 0, .ref x18, .ref x19, .int 0, .int 0, .int 2, .int 0])), (x17, .inl (ty 0, 20, .inl (fun _ => 0))), (x1, .inr (11, [.ref x2, .int 0, .ref x3, .int 0, .ref x4, .ref x5, .int 1, .ref x6, .ref x7, .int 0]))] H := hP
  have hD : va_D A [(x8, .inr (8, [.ref x1, .ref x9, .ref x10, .ref x12, .ref x14, .int 0, .ref x15, .ref x16, .ref x17, .int 0, .ref x18, .ref x19, .int 0, .int 0, .int 2, .int 0])), (x17, .inl (ty 0, 20, .inl (fun _ => 0))), (x1, .inr (11, [.ref x2, .int 0, .ref x3, .int 0, .ref x4, .ref x5, .int 1, .ref x6, .ref x7, .int 0]))] := hD
  refine W.widen (k := 0) (n := 0) (Nat.le_of_ble_eq_true rfl) (Nat.le_of_ble_eq_true rfl) ?_
  refine lv_astore_nN (lv' := [(2, .null), (1, .int 12), (3, .int 0), (0, .ref x8)]) hx hb dX3_keepInstances_28 rfl hl (by decide) rfl (fun ls hl => ?_)
  refine lv_iconst (v := 0) hx hb dX3_keepInstances_29 (by decide) ?_
  refine lv_istore_n (lv' := [(3, .int 0), (2, .null), (1, .int 12), (0, .ref x8)]) hx hb dX3_keepInstances_30 rfl hl (by decide) rfl (fun ls hl => ?_)
  refine lv_aload_nN hx hb dX3_keepInstances_31 rfl (lv_at hl 1 rfl) ?_
  refine lv_ifnullN (tgt := 70) hx hb dX3_keepInstances_32 (by decide) ?_
  refine lv_iinc (v := 13) (lv' := [(1, .int 13), (3, .int 0), (2, .null), (0, .ref x8)]) hx hb dX3_keepInstances_70 hl (k := 2) rfl (by decide) (by decide) rfl (fun ls hl => ?_)
  refine lv_goto (tgt := 7) hx hb dX3_keepInstances_73 (by decide) ?_
  refine lv_iload_n hx hb dX3_keepInstances_7 rfl (lv_at hl 0 rfl) ?_
  refine lv_bipush (v := 20) hx hb dX3_keepInstances_8 (by decide) ?_
  refine lv_icmp_ge (tgt := 76) hx hb dX3_keepInstances_10 (by decide) (fun c0 => absurd c0 (by decide)) (fun _ => ?_)
  refine lv_aload_n hx hb dX3_keepInstances_13 rfl (lv_at hl 3 rfl) ?_
  refine va_get (D := D) (ci := 8) (v := .ref x17) (C := RX3) (T := TX3) (N := 16) hx hb hts iv_k_X3_keepInstances_X3 hown hK hP 0 rfl rfl 8 (by decide) (hts (.fieldLink RX3 38 "AnswerFold$Grounding" "keptByRule" "[I") (by decide +kernel)) (fun _ h9 => h9) rfl dX3_keepInstances_14 ?_
  refine lv_iload_n hx hb dX3_keepInstances_17 rfl (lv_at hl 0 rfl) ?_
  refine lv_iconst (v := 0) hx hb dX3_keepInstances_18 (by decide) ?_
  refine va_iast (D := D) hx hb hK hP hD hS 1 0 rfl rfl (vp_in_iff.mpr (by decide)) dX3_keepInstances_19 (fun H locs hP hD hS => ?_)
  rw [wq_upd0] at hP hD
  have hP : va_P D vwCl [(x8, .inr (8, [.ref x1, .ref x9, .ref x10, .ref x12, .ref x14, .int 0, .ref x15, .ref x16, .ref x17, .int 0, .ref x18, .ref x19, .int 0, .int 0, .int 2, .int 0])), (x17, .inl (ty 0, 20, .inl (fun _ => 0))), (x1, .inr (11, [.ref x2, .int 0, .ref x3, .int 0, .ref x4, .ref x5, .int 1, .ref x6, .ref x7, .int 0]))] H := hP
  have hD : va_D A [(x8, .inr (8, [.ref x1, .ref x9, .ref x10, .ref x12, .ref x14, .int 0, .ref x15, .ref x16, .ref x17, .int 0, .ref x18, .ref x19, .int 0, .int 0, .int 2, .int 0])), (x17, .inl (ty 0, 20, .inl (fun _ => 0))), (x1, .inr (11, [.ref x2, .int 0, .ref x3, .int 0, .ref x4, .ref x5, .int 1, .ref x6, .ref x7, .int 0]))] := hD
  refine lv_aload_n hx hb dX3_keepInstances_20 rfl (lv_at hl 3 rfl) ?_
  refine va_get (D := D) (ci := 8) (v := .ref x1) (C := RX3) (T := TX3) (N := 16) hx hb hts iv_k_X3_keepInstances_X3 hown hK hP 0 rfl rfl 0 (by decide) (hts (.fieldLink RX3 47 "AnswerFold$Grounding" "program" "LAnswerFold$Program;") (by decide +kernel)) (fun _ h9 => h9) rfl dX3_keepInstances_21 ?_
  refine lv_iload_n hx hb dX3_keepInstances_24 rfl (lv_at hl 0 rfl) ?_
  refine wq_r (wc := [(x1, .inr (11, [.ref x2, .int 0, .ref x3, .int 0, .ref x4, .ref x5, .int 1, .ref x6, .ref x7, .int 0]))]) (wr := [(x8, .inr (8, [.ref x1, .ref x9, .ref x10, .ref x12, .ref x14, .int 0, .ref x15, .ref x16, .ref x17, .int 0, .ref x18, .ref x19, .int 0, .int 0, .int 2, .int 0])), (x17, .inl (ty 0, 20, .inl (fun _ => 0)))]) (va_runV (As := [.int 13]) (rest := []) ⟨hx, hb, hml, hown, hts⟩ (k_X6_ruleAt l D ty td mi H.size x1 x2 x3 x4 x5 x6 x7 13) (cwV 1 hts gv_k_X3_keepInstances_13 rfl rfl rfl (by decide +kernel) ⟨(Nat.le_of_ble_eq_true rfl), (Nat.le_of_ble_eq_true rfl)⟩) (wq_preV hP hD hK hE hS hA [2] rfl (by decide) 2 11 rfl rfl) rfl rfl hl.1 rfl (lv_room (Nat.le_of_ble_eq_true rfl)) dX3_keepInstances_25 ⟨(Nat.le_of_ble_eq_true rfl), (Nat.le_of_ble_eq_true rfl)⟩) hS hA hP hD [2] [0, 1] rfl rfl (by decide) (by decide) (fun r u H locs hw hP hD hS => ?_)
  obtain ⟨rfl, rfl⟩ := hw
  have hP : va_P D vwCl [(x8, .inr (8, [.ref x1, .ref x9, .ref x10, .ref x12, .ref x14, .int 0, .ref x15, .ref x16, .ref x17, .int 0, .ref x18, .ref x19, .int 0, .int 0, .int 2, .int 0])), (x17, .inl (ty 0, 20, .inl (fun _ => 0))), (x1, .inr (11, [.ref x2, .int 0, .ref x3, .int 0, .ref x4, .ref x5, .int 1, .ref x6, .ref x7, .int 0]))] H := hP
  have hD : va_D A [(x8, .inr (8, [.ref x1, .ref x9, .ref x10, .ref x12, .ref x14, .int 0, .ref x15, .ref x16, .ref x17, .int 0, .ref x18, .ref x19, .int 0, .int 0, .int 2, .int 0])), (x17, .inl (ty 0, 20, .inl (fun _ => 0))), (x1, .inr (11, [.ref x2, .int 0, .ref x3, .int 0, .ref x4, .ref x5, .int 1, .ref x6, .ref x7, .int 0]))] := hD
  refine W.widen (k := 0) (n := 0) (Nat.le_of_ble_eq_true rfl) (Nat.le_of_ble_eq_true rfl) ?_
  refine lv_astore_nN (lv' := [(2, .null), (1, .int 13), (3, .int 0), (0, .ref x8)]) hx hb dX3_keepInstances_28 rfl hl (by decide) rfl (fun ls hl => ?_)
  refine lv_iconst (v := 0) hx hb dX3_keepInstances_29 (by decide) ?_
  refine lv_istore_n (lv' := [(3, .int 0), (2, .null), (1, .int 13), (0, .ref x8)]) hx hb dX3_keepInstances_30 rfl hl (by decide) rfl (fun ls hl => ?_)
  refine lv_aload_nN hx hb dX3_keepInstances_31 rfl (lv_at hl 1 rfl) ?_
  refine lv_ifnullN (tgt := 70) hx hb dX3_keepInstances_32 (by decide) ?_
  refine lv_iinc (v := 14) (lv' := [(1, .int 14), (3, .int 0), (2, .null), (0, .ref x8)]) hx hb dX3_keepInstances_70 hl (k := 2) rfl (by decide) (by decide) rfl (fun ls hl => ?_)
  refine lv_goto (tgt := 7) hx hb dX3_keepInstances_73 (by decide) ?_
  refine lv_iload_n hx hb dX3_keepInstances_7 rfl (lv_at hl 0 rfl) ?_
  refine lv_bipush (v := 20) hx hb dX3_keepInstances_8 (by decide) ?_
  refine lv_icmp_ge (tgt := 76) hx hb dX3_keepInstances_10 (by decide) (fun c0 => absurd c0 (by decide)) (fun _ => ?_)
  refine lv_aload_n hx hb dX3_keepInstances_13 rfl (lv_at hl 3 rfl) ?_
  refine va_get (D := D) (ci := 8) (v := .ref x17) (C := RX3) (T := TX3) (N := 16) hx hb hts iv_k_X3_keepInstances_X3 hown hK hP 0 rfl rfl 8 (by decide) (hts (.fieldLink RX3 38 "AnswerFold$Grounding" "keptByRule" "[I") (by decide +kernel)) (fun _ h9 => h9) rfl dX3_keepInstances_14 ?_
  refine lv_iload_n hx hb dX3_keepInstances_17 rfl (lv_at hl 0 rfl) ?_
  refine lv_iconst (v := 0) hx hb dX3_keepInstances_18 (by decide) ?_
  refine va_iast (D := D) hx hb hK hP hD hS 1 0 rfl rfl (vp_in_iff.mpr (by decide)) dX3_keepInstances_19 (fun H locs hP hD hS => ?_)
  rw [wq_upd0] at hP hD
  have hP : va_P D vwCl [(x8, .inr (8, [.ref x1, .ref x9, .ref x10, .ref x12, .ref x14, .int 0, .ref x15, .ref x16, .ref x17, .int 0, .ref x18, .ref x19, .int 0, .int 0, .int 2, .int 0])), (x17, .inl (ty 0, 20, .inl (fun _ => 0))), (x1, .inr (11, [.ref x2, .int 0, .ref x3, .int 0, .ref x4, .ref x5, .int 1, .ref x6, .ref x7, .int 0]))] H := hP
  have hD : va_D A [(x8, .inr (8, [.ref x1, .ref x9, .ref x10, .ref x12, .ref x14, .int 0, .ref x15, .ref x16, .ref x17, .int 0, .ref x18, .ref x19, .int 0, .int 0, .int 2, .int 0])), (x17, .inl (ty 0, 20, .inl (fun _ => 0))), (x1, .inr (11, [.ref x2, .int 0, .ref x3, .int 0, .ref x4, .ref x5, .int 1, .ref x6, .ref x7, .int 0]))] := hD
  refine lv_aload_n hx hb dX3_keepInstances_20 rfl (lv_at hl 3 rfl) ?_
  refine va_get (D := D) (ci := 8) (v := .ref x1) (C := RX3) (T := TX3) (N := 16) hx hb hts iv_k_X3_keepInstances_X3 hown hK hP 0 rfl rfl 0 (by decide) (hts (.fieldLink RX3 47 "AnswerFold$Grounding" "program" "LAnswerFold$Program;") (by decide +kernel)) (fun _ h9 => h9) rfl dX3_keepInstances_21 ?_
  refine lv_iload_n hx hb dX3_keepInstances_24 rfl (lv_at hl 0 rfl) ?_
  refine wq_r (wc := [(x1, .inr (11, [.ref x2, .int 0, .ref x3, .int 0, .ref x4, .ref x5, .int 1, .ref x6, .ref x7, .int 0]))]) (wr := [(x8, .inr (8, [.ref x1, .ref x9, .ref x10, .ref x12, .ref x14, .int 0, .ref x15, .ref x16, .ref x17, .int 0, .ref x18, .ref x19, .int 0, .int 0, .int 2, .int 0])), (x17, .inl (ty 0, 20, .inl (fun _ => 0)))]) (va_runV (As := [.int 14]) (rest := []) ⟨hx, hb, hml, hown, hts⟩ (k_X6_ruleAt l D ty td mi H.size x1 x2 x3 x4 x5 x6 x7 14) (cwV 1 hts gv_k_X3_keepInstances_14 rfl rfl rfl (by decide +kernel) ⟨(Nat.le_of_ble_eq_true rfl), (Nat.le_of_ble_eq_true rfl)⟩) (wq_preV hP hD hK hE hS hA [2] rfl (by decide) 2 11 rfl rfl) rfl rfl hl.1 rfl (lv_room (Nat.le_of_ble_eq_true rfl)) dX3_keepInstances_25 ⟨(Nat.le_of_ble_eq_true rfl), (Nat.le_of_ble_eq_true rfl)⟩) hS hA hP hD [2] [0, 1] rfl rfl (by decide) (by decide) (fun r u H locs hw hP hD hS => ?_)
  obtain ⟨rfl, rfl⟩ := hw
  have hP : va_P D vwCl [(x8, .inr (8, [.ref x1, .ref x9, .ref x10, .ref x12, .ref x14, .int 0, .ref x15, .ref x16, .ref x17, .int 0, .ref x18, .ref x19, .int 0, .int 0, .int 2, .int 0])), (x17, .inl (ty 0, 20, .inl (fun _ => 0))), (x1, .inr (11, [.ref x2, .int 0, .ref x3, .int 0, .ref x4, .ref x5, .int 1, .ref x6, .ref x7, .int 0]))] H := hP
  have hD : va_D A [(x8, .inr (8, [.ref x1, .ref x9, .ref x10, .ref x12, .ref x14, .int 0, .ref x15, .ref x16, .ref x17, .int 0, .ref x18, .ref x19, .int 0, .int 0, .int 2, .int 0])), (x17, .inl (ty 0, 20, .inl (fun _ => 0))), (x1, .inr (11, [.ref x2, .int 0, .ref x3, .int 0, .ref x4, .ref x5, .int 1, .ref x6, .ref x7, .int 0]))] := hD
  refine W.widen (k := 0) (n := 0) (Nat.le_of_ble_eq_true rfl) (Nat.le_of_ble_eq_true rfl) ?_
  refine lv_astore_nN (lv' := [(2, .null), (1, .int 14), (3, .int 0), (0, .ref x8)]) hx hb dX3_keepInstances_28 rfl hl (by decide) rfl (fun ls hl => ?_)
  refine lv_iconst (v := 0) hx hb dX3_keepInstances_29 (by decide) ?_
  refine lv_istore_n (lv' := [(3, .int 0), (2, .null), (1, .int 14), (0, .ref x8)]) hx hb dX3_keepInstances_30 rfl hl (by decide) rfl (fun ls hl => ?_)
  refine lv_aload_nN hx hb dX3_keepInstances_31 rfl (lv_at hl 1 rfl) ?_
  refine lv_ifnullN (tgt := 70) hx hb dX3_keepInstances_32 (by decide) ?_
  refine lv_iinc (v := 15) (lv' := [(1, .int 15), (3, .int 0), (2, .null), (0, .ref x8)]) hx hb dX3_keepInstances_70 hl (k := 2) rfl (by decide) (by decide) rfl (fun ls hl => ?_)
  refine lv_goto (tgt := 7) hx hb dX3_keepInstances_73 (by decide) ?_
  refine lv_iload_n hx hb dX3_keepInstances_7 rfl (lv_at hl 0 rfl) ?_
  refine lv_bipush (v := 20) hx hb dX3_keepInstances_8 (by decide) ?_
  refine lv_icmp_ge (tgt := 76) hx hb dX3_keepInstances_10 (by decide) (fun c0 => absurd c0 (by decide)) (fun _ => ?_)
  refine lv_aload_n hx hb dX3_keepInstances_13 rfl (lv_at hl 3 rfl) ?_
  refine va_get (D := D) (ci := 8) (v := .ref x17) (C := RX3) (T := TX3) (N := 16) hx hb hts iv_k_X3_keepInstances_X3 hown hK hP 0 rfl rfl 8 (by decide) (hts (.fieldLink RX3 38 "AnswerFold$Grounding" "keptByRule" "[I") (by decide +kernel)) (fun _ h9 => h9) rfl dX3_keepInstances_14 ?_
  refine lv_iload_n hx hb dX3_keepInstances_17 rfl (lv_at hl 0 rfl) ?_
  refine lv_iconst (v := 0) hx hb dX3_keepInstances_18 (by decide) ?_
  refine va_iast (D := D) hx hb hK hP hD hS 1 0 rfl rfl (vp_in_iff.mpr (by decide)) dX3_keepInstances_19 (fun H locs hP hD hS => ?_)
  rw [wq_upd0] at hP hD
  have hP : va_P D vwCl [(x8, .inr (8, [.ref x1, .ref x9, .ref x10, .ref x12, .ref x14, .int 0, .ref x15, .ref x16, .ref x17, .int 0, .ref x18, .ref x19, .int 0, .int 0, .int 2, .int 0])), (x17, .inl (ty 0, 20, .inl (fun _ => 0))), (x1, .inr (11, [.ref x2, .int 0, .ref x3, .int 0, .ref x4, .ref x5, .int 1, .ref x6, .ref x7, .int 0]))] H := hP
  have hD : va_D A [(x8, .inr (8, [.ref x1, .ref x9, .ref x10, .ref x12, .ref x14, .int 0, .ref x15, .ref x16, .ref x17, .int 0, .ref x18, .ref x19, .int 0, .int 0, .int 2, .int 0])), (x17, .inl (ty 0, 20, .inl (fun _ => 0))), (x1, .inr (11, [.ref x2, .int 0, .ref x3, .int 0, .ref x4, .ref x5, .int 1, .ref x6, .ref x7, .int 0]))] := hD
  refine lv_aload_n hx hb dX3_keepInstances_20 rfl (lv_at hl 3 rfl) ?_
  refine va_get (D := D) (ci := 8) (v := .ref x1) (C := RX3) (T := TX3) (N := 16) hx hb hts iv_k_X3_keepInstances_X3 hown hK hP 0 rfl rfl 0 (by decide) (hts (.fieldLink RX3 47 "AnswerFold$Grounding" "program" "LAnswerFold$Program;") (by decide +kernel)) (fun _ h9 => h9) rfl dX3_keepInstances_21 ?_
  refine lv_iload_n hx hb dX3_keepInstances_24 rfl (lv_at hl 0 rfl) ?_
  refine wq_r (wc := [(x1, .inr (11, [.ref x2, .int 0, .ref x3, .int 0, .ref x4, .ref x5, .int 1, .ref x6, .ref x7, .int 0]))]) (wr := [(x8, .inr (8, [.ref x1, .ref x9, .ref x10, .ref x12, .ref x14, .int 0, .ref x15, .ref x16, .ref x17, .int 0, .ref x18, .ref x19, .int 0, .int 0, .int 2, .int 0])), (x17, .inl (ty 0, 20, .inl (fun _ => 0)))]) (va_runV (As := [.int 15]) (rest := []) ⟨hx, hb, hml, hown, hts⟩ (k_X6_ruleAt l D ty td mi H.size x1 x2 x3 x4 x5 x6 x7 15) (cwV 1 hts gv_k_X3_keepInstances_15 rfl rfl rfl (by decide +kernel) ⟨(Nat.le_of_ble_eq_true rfl), (Nat.le_of_ble_eq_true rfl)⟩) (wq_preV hP hD hK hE hS hA [2] rfl (by decide) 2 11 rfl rfl) rfl rfl hl.1 rfl (lv_room (Nat.le_of_ble_eq_true rfl)) dX3_keepInstances_25 ⟨(Nat.le_of_ble_eq_true rfl), (Nat.le_of_ble_eq_true rfl)⟩) hS hA hP hD [2] [0, 1] rfl rfl (by decide) (by decide) (fun r u H locs hw hP hD hS => ?_)
  obtain ⟨rfl, rfl⟩ := hw
  have hP : va_P D vwCl [(x8, .inr (8, [.ref x1, .ref x9, .ref x10, .ref x12, .ref x14, .int 0, .ref x15, .ref x16, .ref x17, .int 0, .ref x18, .ref x19, .int 0, .int 0, .int 2, .int 0])), (x17, .inl (ty 0, 20, .inl (fun _ => 0))), (x1, .inr (11, [.ref x2, .int 0, .ref x3, .int 0, .ref x4, .ref x5, .int 1, .ref x6, .ref x7, .int 0]))] H := hP
  have hD : va_D A [(x8, .inr (8, [.ref x1, .ref x9, .ref x10, .ref x12, .ref x14, .int 0, .ref x15, .ref x16, .ref x17, .int 0, .ref x18, .ref x19, .int 0, .int 0, .int 2, .int 0])), (x17, .inl (ty 0, 20, .inl (fun _ => 0))), (x1, .inr (11, [.ref x2, .int 0, .ref x3, .int 0, .ref x4, .ref x5, .int 1, .ref x6, .ref x7, .int 0]))] := hD
  refine W.widen (k := 0) (n := 0) (Nat.le_of_ble_eq_true rfl) (Nat.le_of_ble_eq_true rfl) ?_
  refine lv_astore_nN (lv' := [(2, .null), (1, .int 15), (3, .int 0), (0, .ref x8)]) hx hb dX3_keepInstances_28 rfl hl (by decide) rfl (fun ls hl => ?_)
  refine lv_iconst (v := 0) hx hb dX3_keepInstances_29 (by decide) ?_
  refine lv_istore_n (lv' := [(3, .int 0), (2, .null), (1, .int 15), (0, .ref x8)]) hx hb dX3_keepInstances_30 rfl hl (by decide) rfl (fun ls hl => ?_)
  refine lv_aload_nN hx hb dX3_keepInstances_31 rfl (lv_at hl 1 rfl) ?_
  refine lv_ifnullN (tgt := 70) hx hb dX3_keepInstances_32 (by decide) ?_
  refine lv_iinc (v := 16) (lv' := [(1, .int 16), (3, .int 0), (2, .null), (0, .ref x8)]) hx hb dX3_keepInstances_70 hl (k := 2) rfl (by decide) (by decide) rfl (fun ls hl => ?_)
  refine lv_goto (tgt := 7) hx hb dX3_keepInstances_73 (by decide) ?_
  refine lv_iload_n hx hb dX3_keepInstances_7 rfl (lv_at hl 0 rfl) ?_
  refine lv_bipush (v := 20) hx hb dX3_keepInstances_8 (by decide) ?_
  refine lv_icmp_ge (tgt := 76) hx hb dX3_keepInstances_10 (by decide) (fun c0 => absurd c0 (by decide)) (fun _ => ?_)
  refine lv_aload_n hx hb dX3_keepInstances_13 rfl (lv_at hl 3 rfl) ?_
  refine va_get (D := D) (ci := 8) (v := .ref x17) (C := RX3) (T := TX3) (N := 16) hx hb hts iv_k_X3_keepInstances_X3 hown hK hP 0 rfl rfl 8 (by decide) (hts (.fieldLink RX3 38 "AnswerFold$Grounding" "keptByRule" "[I") (by decide +kernel)) (fun _ h9 => h9) rfl dX3_keepInstances_14 ?_
  refine lv_iload_n hx hb dX3_keepInstances_17 rfl (lv_at hl 0 rfl) ?_
  refine lv_iconst (v := 0) hx hb dX3_keepInstances_18 (by decide) ?_
  refine va_iast (D := D) hx hb hK hP hD hS 1 0 rfl rfl (vp_in_iff.mpr (by decide)) dX3_keepInstances_19 (fun H locs hP hD hS => ?_)
  rw [wq_upd0] at hP hD
  have hP : va_P D vwCl [(x8, .inr (8, [.ref x1, .ref x9, .ref x10, .ref x12, .ref x14, .int 0, .ref x15, .ref x16, .ref x17, .int 0, .ref x18, .ref x19, .int 0, .int 0, .int 2, .int 0])), (x17, .inl (ty 0, 20, .inl (fun _ => 0))), (x1, .inr (11, [.ref x2, .int 0, .ref x3, .int 0, .ref x4, .ref x5, .int 1, .ref x6, .ref x7, .int 0]))] H := hP
  have hD : va_D A [(x8, .inr (8, [.ref x1, .ref x9, .ref x10, .ref x12, .ref x14, .int 0, .ref x15, .ref x16, .ref x17, .int 0, .ref x18, .ref x19, .int 0, .int 0, .int 2, .int 0])), (x17, .inl (ty 0, 20, .inl (fun _ => 0))), (x1, .inr (11, [.ref x2, .int 0, .ref x3, .int 0, .ref x4, .ref x5, .int 1, .ref x6, .ref x7, .int 0]))] := hD
  refine lv_aload_n hx hb dX3_keepInstances_20 rfl (lv_at hl 3 rfl) ?_
  refine va_get (D := D) (ci := 8) (v := .ref x1) (C := RX3) (T := TX3) (N := 16) hx hb hts iv_k_X3_keepInstances_X3 hown hK hP 0 rfl rfl 0 (by decide) (hts (.fieldLink RX3 47 "AnswerFold$Grounding" "program" "LAnswerFold$Program;") (by decide +kernel)) (fun _ h9 => h9) rfl dX3_keepInstances_21 ?_
  refine lv_iload_n hx hb dX3_keepInstances_24 rfl (lv_at hl 0 rfl) ?_
  refine wq_r (wc := [(x1, .inr (11, [.ref x2, .int 0, .ref x3, .int 0, .ref x4, .ref x5, .int 1, .ref x6, .ref x7, .int 0]))]) (wr := [(x8, .inr (8, [.ref x1, .ref x9, .ref x10, .ref x12, .ref x14, .int 0, .ref x15, .ref x16, .ref x17, .int 0, .ref x18, .ref x19, .int 0, .int 0, .int 2, .int 0])), (x17, .inl (ty 0, 20, .inl (fun _ => 0)))]) (va_runV (As := [.int 16]) (rest := []) ⟨hx, hb, hml, hown, hts⟩ (k_X6_ruleAt l D ty td mi H.size x1 x2 x3 x4 x5 x6 x7 16) (cwV 1 hts gv_k_X3_keepInstances_16 rfl rfl rfl (by decide +kernel) ⟨(Nat.le_of_ble_eq_true rfl), (Nat.le_of_ble_eq_true rfl)⟩) (wq_preV hP hD hK hE hS hA [2] rfl (by decide) 2 11 rfl rfl) rfl rfl hl.1 rfl (lv_room (Nat.le_of_ble_eq_true rfl)) dX3_keepInstances_25 ⟨(Nat.le_of_ble_eq_true rfl), (Nat.le_of_ble_eq_true rfl)⟩) hS hA hP hD [2] [0, 1] rfl rfl (by decide) (by decide) (fun r u H locs hw hP hD hS => ?_)
  obtain ⟨rfl, rfl⟩ := hw
  have hP : va_P D vwCl [(x8, .inr (8, [.ref x1, .ref x9, .ref x10, .ref x12, .ref x14, .int 0, .ref x15, .ref x16, .ref x17, .int 0, .ref x18, .ref x19, .int 0, .int 0, .int 2, .int 0])), (x17, .inl (ty 0, 20, .inl (fun _ => 0))), (x1, .inr (11, [.ref x2, .int 0, .ref x3, .int 0, .ref x4, .ref x5, .int 1, .ref x6, .ref x7, .int 0]))] H := hP
  have hD : va_D A [(x8, .inr (8, [.ref x1, .ref x9, .ref x10, .ref x12, .ref x14, .int 0, .ref x15, .ref x16, .ref x17, .int 0, .ref x18, .ref x19, .int 0, .int 0, .int 2, .int 0])), (x17, .inl (ty 0, 20, .inl (fun _ => 0))), (x1, .inr (11, [.ref x2, .int 0, .ref x3, .int 0, .ref x4, .ref x5, .int 1, .ref x6, .ref x7, .int 0]))] := hD
  refine W.widen (k := 0) (n := 0) (Nat.le_of_ble_eq_true rfl) (Nat.le_of_ble_eq_true rfl) ?_
  refine lv_astore_nN (lv' := [(2, .null), (1, .int 16), (3, .int 0), (0, .ref x8)]) hx hb dX3_keepInstances_28 rfl hl (by decide) rfl (fun ls hl => ?_)
  refine lv_iconst (v := 0) hx hb dX3_keepInstances_29 (by decide) ?_
  refine lv_istore_n (lv' := [(3, .int 0), (2, .null), (1, .int 16), (0, .ref x8)]) hx hb dX3_keepInstances_30 rfl hl (by decide) rfl (fun ls hl => ?_)
  refine lv_aload_nN hx hb dX3_keepInstances_31 rfl (lv_at hl 1 rfl) ?_
  refine lv_ifnullN (tgt := 70) hx hb dX3_keepInstances_32 (by decide) ?_
  refine lv_iinc (v := 17) (lv' := [(1, .int 17), (3, .int 0), (2, .null), (0, .ref x8)]) hx hb dX3_keepInstances_70 hl (k := 2) rfl (by decide) (by decide) rfl (fun ls hl => ?_)
  refine lv_goto (tgt := 7) hx hb dX3_keepInstances_73 (by decide) ?_
  refine lv_iload_n hx hb dX3_keepInstances_7 rfl (lv_at hl 0 rfl) ?_
  refine lv_bipush (v := 20) hx hb dX3_keepInstances_8 (by decide) ?_
  refine lv_icmp_ge (tgt := 76) hx hb dX3_keepInstances_10 (by decide) (fun c0 => absurd c0 (by decide)) (fun _ => ?_)
  refine lv_aload_n hx hb dX3_keepInstances_13 rfl (lv_at hl 3 rfl) ?_
  refine va_get (D := D) (ci := 8) (v := .ref x17) (C := RX3) (T := TX3) (N := 16) hx hb hts iv_k_X3_keepInstances_X3 hown hK hP 0 rfl rfl 8 (by decide) (hts (.fieldLink RX3 38 "AnswerFold$Grounding" "keptByRule" "[I") (by decide +kernel)) (fun _ h9 => h9) rfl dX3_keepInstances_14 ?_
  refine lv_iload_n hx hb dX3_keepInstances_17 rfl (lv_at hl 0 rfl) ?_
  refine lv_iconst (v := 0) hx hb dX3_keepInstances_18 (by decide) ?_
  refine va_iast (D := D) hx hb hK hP hD hS 1 0 rfl rfl (vp_in_iff.mpr (by decide)) dX3_keepInstances_19 (fun H locs hP hD hS => ?_)
  rw [wq_upd0] at hP hD
  have hP : va_P D vwCl [(x8, .inr (8, [.ref x1, .ref x9, .ref x10, .ref x12, .ref x14, .int 0, .ref x15, .ref x16, .ref x17, .int 0, .ref x18, .ref x19, .int 0, .int 0, .int 2, .int 0])), (x17, .inl (ty 0, 20, .inl (fun _ => 0))), (x1, .inr (11, [.ref x2, .int 0, .ref x3, .int 0, .ref x4, .ref x5, .int 1, .ref x6, .ref x7, .int 0]))] H := hP
  have hD : va_D A [(x8, .inr (8, [.ref x1, .ref x9, .ref x10, .ref x12, .ref x14, .int 0, .ref x15, .ref x16, .ref x17, .int 0, .ref x18, .ref x19, .int 0, .int 0, .int 2, .int 0])), (x17, .inl (ty 0, 20, .inl (fun _ => 0))), (x1, .inr (11, [.ref x2, .int 0, .ref x3, .int 0, .ref x4, .ref x5, .int 1, .ref x6, .ref x7, .int 0]))] := hD
  refine lv_aload_n hx hb dX3_keepInstances_20 rfl (lv_at hl 3 rfl) ?_
  refine va_get (D := D) (ci := 8) (v := .ref x1) (C := RX3) (T := TX3) (N := 16) hx hb hts iv_k_X3_keepInstances_X3 hown hK hP 0 rfl rfl 0 (by decide) (hts (.fieldLink RX3 47 "AnswerFold$Grounding" "program" "LAnswerFold$Program;") (by decide +kernel)) (fun _ h9 => h9) rfl dX3_keepInstances_21 ?_
  refine lv_iload_n hx hb dX3_keepInstances_24 rfl (lv_at hl 0 rfl) ?_
  refine wq_r (wc := [(x1, .inr (11, [.ref x2, .int 0, .ref x3, .int 0, .ref x4, .ref x5, .int 1, .ref x6, .ref x7, .int 0]))]) (wr := [(x8, .inr (8, [.ref x1, .ref x9, .ref x10, .ref x12, .ref x14, .int 0, .ref x15, .ref x16, .ref x17, .int 0, .ref x18, .ref x19, .int 0, .int 0, .int 2, .int 0])), (x17, .inl (ty 0, 20, .inl (fun _ => 0)))]) (va_runV (As := [.int 17]) (rest := []) ⟨hx, hb, hml, hown, hts⟩ (k_X6_ruleAt l D ty td mi H.size x1 x2 x3 x4 x5 x6 x7 17) (cwV 1 hts gv_k_X3_keepInstances_17 rfl rfl rfl (by decide +kernel) ⟨(Nat.le_of_ble_eq_true rfl), (Nat.le_of_ble_eq_true rfl)⟩) (wq_preV hP hD hK hE hS hA [2] rfl (by decide) 2 11 rfl rfl) rfl rfl hl.1 rfl (lv_room (Nat.le_of_ble_eq_true rfl)) dX3_keepInstances_25 ⟨(Nat.le_of_ble_eq_true rfl), (Nat.le_of_ble_eq_true rfl)⟩) hS hA hP hD [2] [0, 1] rfl rfl (by decide) (by decide) (fun r u H locs hw hP hD hS => ?_)
  obtain ⟨rfl, rfl⟩ := hw
  have hP : va_P D vwCl [(x8, .inr (8, [.ref x1, .ref x9, .ref x10, .ref x12, .ref x14, .int 0, .ref x15, .ref x16, .ref x17, .int 0, .ref x18, .ref x19, .int 0, .int 0, .int 2, .int 0])), (x17, .inl (ty 0, 20, .inl (fun _ => 0))), (x1, .inr (11, [.ref x2, .int 0, .ref x3, .int 0, .ref x4, .ref x5, .int 1, .ref x6, .ref x7, .int 0]))] H := hP
  have hD : va_D A [(x8, .inr (8, [.ref x1, .ref x9, .ref x10, .ref x12, .ref x14, .int 0, .ref x15, .ref x16, .ref x17, .int 0, .ref x18, .ref x19, .int 0, .int 0, .int 2, .int 0])), (x17, .inl (ty 0, 20, .inl (fun _ => 0))), (x1, .inr (11, [.ref x2, .int 0, .ref x3, .int 0, .ref x4, .ref x5, .int 1, .ref x6, .ref x7, .int 0]))] := hD
  refine W.widen (k := 0) (n := 0) (Nat.le_of_ble_eq_true rfl) (Nat.le_of_ble_eq_true rfl) ?_
  refine lv_astore_nN (lv' := [(2, .null), (1, .int 17), (3, .int 0), (0, .ref x8)]) hx hb dX3_keepInstances_28 rfl hl (by decide) rfl (fun ls hl => ?_)
  refine lv_iconst (v := 0) hx hb dX3_keepInstances_29 (by decide) ?_
  refine lv_istore_n (lv' := [(3, .int 0), (2, .null), (1, .int 17), (0, .ref x8)]) hx hb dX3_keepInstances_30 rfl hl (by decide) rfl (fun ls hl => ?_)
  refine lv_aload_nN hx hb dX3_keepInstances_31 rfl (lv_at hl 1 rfl) ?_
  refine lv_ifnullN (tgt := 70) hx hb dX3_keepInstances_32 (by decide) ?_
  refine lv_iinc (v := 18) (lv' := [(1, .int 18), (3, .int 0), (2, .null), (0, .ref x8)]) hx hb dX3_keepInstances_70 hl (k := 2) rfl (by decide) (by decide) rfl (fun ls hl => ?_)
  refine lv_goto (tgt := 7) hx hb dX3_keepInstances_73 (by decide) ?_
  refine lv_iload_n hx hb dX3_keepInstances_7 rfl (lv_at hl 0 rfl) ?_
  refine lv_bipush (v := 20) hx hb dX3_keepInstances_8 (by decide) ?_
  refine lv_icmp_ge (tgt := 76) hx hb dX3_keepInstances_10 (by decide) (fun c0 => absurd c0 (by decide)) (fun _ => ?_)
  refine lv_aload_n hx hb dX3_keepInstances_13 rfl (lv_at hl 3 rfl) ?_
  refine va_get (D := D) (ci := 8) (v := .ref x17) (C := RX3) (T := TX3) (N := 16) hx hb hts iv_k_X3_keepInstances_X3 hown hK hP 0 rfl rfl 8 (by decide) (hts (.fieldLink RX3 38 "AnswerFold$Grounding" "keptByRule" "[I") (by decide +kernel)) (fun _ h9 => h9) rfl dX3_keepInstances_14 ?_
  refine lv_iload_n hx hb dX3_keepInstances_17 rfl (lv_at hl 0 rfl) ?_
  refine lv_iconst (v := 0) hx hb dX3_keepInstances_18 (by decide) ?_
  refine va_iast (D := D) hx hb hK hP hD hS 1 0 rfl rfl (vp_in_iff.mpr (by decide)) dX3_keepInstances_19 (fun H locs hP hD hS => ?_)
  rw [wq_upd0] at hP hD
  have hP : va_P D vwCl [(x8, .inr (8, [.ref x1, .ref x9, .ref x10, .ref x12, .ref x14, .int 0, .ref x15, .ref x16, .ref x17, .int 0, .ref x18, .ref x19, .int 0, .int 0, .int 2, .int 0])), (x17, .inl (ty 0, 20, .inl (fun _ => 0))), (x1, .inr (11, [.ref x2, .int 0, .ref x3, .int 0, .ref x4, .ref x5, .int 1, .ref x6, .ref x7, .int 0]))] H := hP
  have hD : va_D A [(x8, .inr (8, [.ref x1, .ref x9, .ref x10, .ref x12, .ref x14, .int 0, .ref x15, .ref x16, .ref x17, .int 0, .ref x18, .ref x19, .int 0, .int 0, .int 2, .int 0])), (x17, .inl (ty 0, 20, .inl (fun _ => 0))), (x1, .inr (11, [.ref x2, .int 0, .ref x3, .int 0, .ref x4, .ref x5, .int 1, .ref x6, .ref x7, .int 0]))] := hD
  refine lv_aload_n hx hb dX3_keepInstances_20 rfl (lv_at hl 3 rfl) ?_
  refine va_get (D := D) (ci := 8) (v := .ref x1) (C := RX3) (T := TX3) (N := 16) hx hb hts iv_k_X3_keepInstances_X3 hown hK hP 0 rfl rfl 0 (by decide) (hts (.fieldLink RX3 47 "AnswerFold$Grounding" "program" "LAnswerFold$Program;") (by decide +kernel)) (fun _ h9 => h9) rfl dX3_keepInstances_21 ?_
  refine lv_iload_n hx hb dX3_keepInstances_24 rfl (lv_at hl 0 rfl) ?_
  refine wq_r (wc := [(x1, .inr (11, [.ref x2, .int 0, .ref x3, .int 0, .ref x4, .ref x5, .int 1, .ref x6, .ref x7, .int 0]))]) (wr := [(x8, .inr (8, [.ref x1, .ref x9, .ref x10, .ref x12, .ref x14, .int 0, .ref x15, .ref x16, .ref x17, .int 0, .ref x18, .ref x19, .int 0, .int 0, .int 2, .int 0])), (x17, .inl (ty 0, 20, .inl (fun _ => 0)))]) (va_runV (As := [.int 18]) (rest := []) ⟨hx, hb, hml, hown, hts⟩ (k_X6_ruleAt l D ty td mi H.size x1 x2 x3 x4 x5 x6 x7 18) (cwV 1 hts gv_k_X3_keepInstances_18 rfl rfl rfl (by decide +kernel) ⟨(Nat.le_of_ble_eq_true rfl), (Nat.le_of_ble_eq_true rfl)⟩) (wq_preV hP hD hK hE hS hA [2] rfl (by decide) 2 11 rfl rfl) rfl rfl hl.1 rfl (lv_room (Nat.le_of_ble_eq_true rfl)) dX3_keepInstances_25 ⟨(Nat.le_of_ble_eq_true rfl), (Nat.le_of_ble_eq_true rfl)⟩) hS hA hP hD [2] [0, 1] rfl rfl (by decide) (by decide) (fun r u H locs hw hP hD hS => ?_)
  obtain ⟨rfl, rfl⟩ := hw
  have hP : va_P D vwCl [(x8, .inr (8, [.ref x1, .ref x9, .ref x10, .ref x12, .ref x14, .int 0, .ref x15, .ref x16, .ref x17, .int 0, .ref x18, .ref x19, .int 0, .int 0, .int 2, .int 0])), (x17, .inl (ty 0, 20, .inl (fun _ => 0))), (x1, .inr (11, [.ref x2, .int 0, .ref x3, .int 0, .ref x4, .ref x5, .int 1, .ref x6, .ref x7, .int 0]))] H := hP
  have hD : va_D A [(x8, .inr (8, [.ref x1, .ref x9, .ref x10, .ref x12, .ref x14, .int 0, .ref x15, .ref x16, .ref x17, .int 0, .ref x18, .ref x19, .int 0, .int 0, .int 2, .int 0])), (x17, .inl (ty 0, 20, .inl (fun _ => 0))), (x1, .inr (11, [.ref x2, .int 0, .ref x3, .int 0, .ref x4, .ref x5, .int 1, .ref x6, .ref x7, .int 0]))] := hD
  refine W.widen (k := 0) (n := 0) (Nat.le_of_ble_eq_true rfl) (Nat.le_of_ble_eq_true rfl) ?_
  refine lv_astore_nN (lv' := [(2, .null), (1, .int 18), (3, .int 0), (0, .ref x8)]) hx hb dX3_keepInstances_28 rfl hl (by decide) rfl (fun ls hl => ?_)
  refine lv_iconst (v := 0) hx hb dX3_keepInstances_29 (by decide) ?_
  refine lv_istore_n (lv' := [(3, .int 0), (2, .null), (1, .int 18), (0, .ref x8)]) hx hb dX3_keepInstances_30 rfl hl (by decide) rfl (fun ls hl => ?_)
  refine lv_aload_nN hx hb dX3_keepInstances_31 rfl (lv_at hl 1 rfl) ?_
  refine lv_ifnullN (tgt := 70) hx hb dX3_keepInstances_32 (by decide) ?_
  refine lv_iinc (v := 19) (lv' := [(1, .int 19), (3, .int 0), (2, .null), (0, .ref x8)]) hx hb dX3_keepInstances_70 hl (k := 2) rfl (by decide) (by decide) rfl (fun ls hl => ?_)
  refine lv_goto (tgt := 7) hx hb dX3_keepInstances_73 (by decide) ?_
  refine lv_iload_n hx hb dX3_keepInstances_7 rfl (lv_at hl 0 rfl) ?_
  refine lv_bipush (v := 20) hx hb dX3_keepInstances_8 (by decide) ?_
  refine lv_icmp_ge (tgt := 76) hx hb dX3_keepInstances_10 (by decide) (fun c0 => absurd c0 (by decide)) (fun _ => ?_)
  refine lv_aload_n hx hb dX3_keepInstances_13 rfl (lv_at hl 3 rfl) ?_
  refine va_get (D := D) (ci := 8) (v := .ref x17) (C := RX3) (T := TX3) (N := 16) hx hb hts iv_k_X3_keepInstances_X3 hown hK hP 0 rfl rfl 8 (by decide) (hts (.fieldLink RX3 38 "AnswerFold$Grounding" "keptByRule" "[I") (by decide +kernel)) (fun _ h9 => h9) rfl dX3_keepInstances_14 ?_
  refine lv_iload_n hx hb dX3_keepInstances_17 rfl (lv_at hl 0 rfl) ?_
  refine lv_iconst (v := 0) hx hb dX3_keepInstances_18 (by decide) ?_
  refine va_iast (D := D) hx hb hK hP hD hS 1 0 rfl rfl (vp_in_iff.mpr (by decide)) dX3_keepInstances_19 (fun H locs hP hD hS => ?_)
  rw [wq_upd0] at hP hD
  have hP : va_P D vwCl [(x8, .inr (8, [.ref x1, .ref x9, .ref x10, .ref x12, .ref x14, .int 0, .ref x15, .ref x16, .ref x17, .int 0, .ref x18, .ref x19, .int 0, .int 0, .int 2, .int 0])), (x17, .inl (ty 0, 20, .inl (fun _ => 0))), (x1, .inr (11, [.ref x2, .int 0, .ref x3, .int 0, .ref x4, .ref x5, .int 1, .ref x6, .ref x7, .int 0]))] H := hP
  have hD : va_D A [(x8, .inr (8, [.ref x1, .ref x9, .ref x10, .ref x12, .ref x14, .int 0, .ref x15, .ref x16, .ref x17, .int 0, .ref x18, .ref x19, .int 0, .int 0, .int 2, .int 0])), (x17, .inl (ty 0, 20, .inl (fun _ => 0))), (x1, .inr (11, [.ref x2, .int 0, .ref x3, .int 0, .ref x4, .ref x5, .int 1, .ref x6, .ref x7, .int 0]))] := hD
  refine lv_aload_n hx hb dX3_keepInstances_20 rfl (lv_at hl 3 rfl) ?_
  refine va_get (D := D) (ci := 8) (v := .ref x1) (C := RX3) (T := TX3) (N := 16) hx hb hts iv_k_X3_keepInstances_X3 hown hK hP 0 rfl rfl 0 (by decide) (hts (.fieldLink RX3 47 "AnswerFold$Grounding" "program" "LAnswerFold$Program;") (by decide +kernel)) (fun _ h9 => h9) rfl dX3_keepInstances_21 ?_
  refine lv_iload_n hx hb dX3_keepInstances_24 rfl (lv_at hl 0 rfl) ?_
  refine wq_r (wc := [(x1, .inr (11, [.ref x2, .int 0, .ref x3, .int 0, .ref x4, .ref x5, .int 1, .ref x6, .ref x7, .int 0]))]) (wr := [(x8, .inr (8, [.ref x1, .ref x9, .ref x10, .ref x12, .ref x14, .int 0, .ref x15, .ref x16, .ref x17, .int 0, .ref x18, .ref x19, .int 0, .int 0, .int 2, .int 0])), (x17, .inl (ty 0, 20, .inl (fun _ => 0)))]) (va_runV (As := [.int 19]) (rest := []) ⟨hx, hb, hml, hown, hts⟩ (k_X6_ruleAt l D ty td mi H.size x1 x2 x3 x4 x5 x6 x7 19) (cwV 1 hts gv_k_X3_keepInstances_19 rfl rfl rfl (by decide +kernel) ⟨(Nat.le_of_ble_eq_true rfl), (Nat.le_of_ble_eq_true rfl)⟩) (wq_preV hP hD hK hE hS hA [2] rfl (by decide) 2 11 rfl rfl) rfl rfl hl.1 rfl (lv_room (Nat.le_of_ble_eq_true rfl)) dX3_keepInstances_25 ⟨(Nat.le_of_ble_eq_true rfl), (Nat.le_of_ble_eq_true rfl)⟩) hS hA hP hD [2] [0, 1] rfl rfl (by decide) (by decide) (fun r u H locs hw hP hD hS => ?_)
  obtain ⟨rfl, rfl⟩ := hw
  have hP : va_P D vwCl [(x8, .inr (8, [.ref x1, .ref x9, .ref x10, .ref x12, .ref x14, .int 0, .ref x15, .ref x16, .ref x17, .int 0, .ref x18, .ref x19, .int 0, .int 0, .int 2, .int 0])), (x17, .inl (ty 0, 20, .inl (fun _ => 0))), (x1, .inr (11, [.ref x2, .int 0, .ref x3, .int 0, .ref x4, .ref x5, .int 1, .ref x6, .ref x7, .int 0]))] H := hP
  have hD : va_D A [(x8, .inr (8, [.ref x1, .ref x9, .ref x10, .ref x12, .ref x14, .int 0, .ref x15, .ref x16, .ref x17, .int 0, .ref x18, .ref x19, .int 0, .int 0, .int 2, .int 0])), (x17, .inl (ty 0, 20, .inl (fun _ => 0))), (x1, .inr (11, [.ref x2, .int 0, .ref x3, .int 0, .ref x4, .ref x5, .int 1, .ref x6, .ref x7, .int 0]))] := hD
  refine W.widen (k := 0) (n := 0) (Nat.le_of_ble_eq_true rfl) (Nat.le_of_ble_eq_true rfl) ?_
  refine lv_astore_nN (lv' := [(2, .null), (1, .int 19), (3, .int 0), (0, .ref x8)]) hx hb dX3_keepInstances_28 rfl hl (by decide) rfl (fun ls hl => ?_)
  refine lv_iconst (v := 0) hx hb dX3_keepInstances_29 (by decide) ?_
  refine lv_istore_n (lv' := [(3, .int 0), (2, .null), (1, .int 19), (0, .ref x8)]) hx hb dX3_keepInstances_30 rfl hl (by decide) rfl (fun ls hl => ?_)
  refine lv_aload_nN hx hb dX3_keepInstances_31 rfl (lv_at hl 1 rfl) ?_
  refine lv_ifnullN (tgt := 70) hx hb dX3_keepInstances_32 (by decide) ?_
  refine lv_iinc (v := 20) (lv' := [(1, .int 20), (3, .int 0), (2, .null), (0, .ref x8)]) hx hb dX3_keepInstances_70 hl (k := 2) rfl (by decide) (by decide) rfl (fun ls hl => ?_)
  refine lv_goto (tgt := 7) hx hb dX3_keepInstances_73 (by decide) ?_
  refine lv_iload_n hx hb dX3_keepInstances_7 rfl (lv_at hl 0 rfl) ?_
  refine lv_bipush (v := 20) hx hb dX3_keepInstances_8 (by decide) ?_
  refine lv_icmp_ge (tgt := 76) hx hb dX3_keepInstances_10 (by decide) (fun _ => ?_) (fun c0 => absurd (by decide) c0)
  have hP9 := hP.sub (ws' := [(x8, .inr (8, [.ref x1, .ref x9, .ref x10, .ref x12, .ref x14, .int 0, .ref x15, .ref x16, .ref x17, .int 0, .ref x18, .ref x19, .int 0, .int 0, .int 2, .int 0])), (x17, .inl (ty 0, 20, .inl (fun _ => 0))), (x1, .inr (11, [.ref x2, .int 0, .ref x3, .int 0, .ref x4, .ref x5, .int 1, .ref x6, .ref x7, .int 0]))]) [0, 1, 2] rfl
  have hD9 := hD.sub (ws' := [(x8, .inr (8, [.ref x1, .ref x9, .ref x10, .ref x12, .ref x14, .int 0, .ref x15, .ref x16, .ref x17, .int 0, .ref x18, .ref x19, .int 0, .int 0, .int 2, .int 0])), (x17, .inl (ty 0, 20, .inl (fun _ => 0))), (x1, .inr (11, [.ref x2, .int 0, .ref x3, .int 0, .ref x4, .ref x5, .int 1, .ref x6, .ref x7, .int 0]))]) [0, 1, 2] (by decide) rfl
  refine W.widen (k := 0) (n := 0) (Nat.le_of_ble_eq_true rfl) (Nat.le_of_ble_eq_true rfl) ?_
  exact W.vret hx hb hr (fun t ht hW => ⟨⟨[(x8, .inr (8, [.ref x1, .ref x9, .ref x10, .ref x12, .ref x14, .int 0, .ref x15, .ref x16, .ref x17, .int 0, .ref x18, .ref x19, .int 0, .int 0, .int 2, .int 0])), (x17, .inl (ty 0, 20, .inl (fun _ => 0))), (x1, .inr (11, [.ref x2, .int 0, .ref x3, .int 0, .ref x4, .ref x5, .int 1, .ref x6, .ref x7, .int 0]))], rfl, rfl, wq_B.of ht hP9 hD9⟩, hS.F ht⟩) hS.2.2 dX3_keepInstances_76
def vs_k_X3_numberOpenAtoms : List Cond := .code yX3_numberOpenAtoms cX3_numberOpenAtoms 2 none :: ([.fieldLink RX3 216 "AnswerFold$Grounding" "openCount" "I", .fieldLink RX3 44 "AnswerFold$Grounding" "openNumbers" "[I", .fieldLink RX3 25 "AnswerFold$Grounding" "possible" "LAnswerFold$AtomSet;", .methodLink RX3 179 yX1_contains, .instanceMethod yX1_contains, .selects RX1 yX1_contains yX1_contains, .initialized RX1] ++ (u_ws RX3 TX3 16 ++ (vs_k_X1_contains)))
theorem iv_k_X3_numberOpenAtoms_X3 : ∀ w ∈ u_ws RX3 TX3 16, w ∈ vs_k_X3_numberOpenAtoms := (fun _ h => List.mem_cons_of_mem _ (List.mem_append_right _ (List.mem_append_left _ h)))
set_option maxRecDepth 20000 in
theorem gv_k_X3_numberOpenAtoms_0 : GoodIn vs_k_X3_numberOpenAtoms (wsV RX3 179 RX1 yX1_contains vs_k_X1_contains) := goodIn_app (goodIn_sub (by decide +kernel) (by decide +kernel)) (goodIn_sub (fun _ h => List.mem_cons_of_mem _ (List.mem_append_right _ (List.mem_append_right _ (h)))) (by decide +kernel))
set_option maxHeartbeats 4000000 in
set_option maxRecDepth 100000 in
theorem k_X3_numberOpenAtoms (l : Launch) (D : va_G) (ty : Nat → ClassId) (td mi sz : Nat) (x8 : Nat) (x1 : Nat) (x9 : Nat) (x10 : Nat) (x12 : Nat) (x14 : Nat) (x15 : Nat) (x16 : Nat) (x17 : Nat) (x18 : Nat) (x19 : Nat) (x11 : Nat) (x13 : Nat) : Met l yX3_numberOpenAtoms vs_k_X3_numberOpenAtoms { frames := 1, cells := 0, slots := 0, locals := 21 } (va_Pc [.ref x8] (wq_P D ty td mi [(x8, .inr (8, [.ref x1, .ref x9, .ref x10, .ref x12, .ref x14, .int 0, .ref x15, .ref x16, .ref x17, .int 0, .ref x18, .ref x19, .int 0, .int 0, .int 2, .int 0])), (x10, .inr (6, [.ref x11])), (x11, .inl (ty 1, 6, .inr (.inl (fun _ => 0)))), (x12, .inr (6, [.ref x13])), (x13, .inl (ty 1, 6, .inr (.inl (fun _ => 0)))), (x19, .inl (ty 0, 384, .inl (fun _ => 0)))] sz)) (va_Qv (fun u : va_W => ((u = [(x8, .inr (8, [.ref x1, .ref x9, .ref x10, .ref x12, .ref x14, .int 0, .ref x15, .ref x16, .ref x17, .int 0, .ref x18, .ref x19, .int 0, .int 0, .int 2, .int 0])), (x10, .inr (6, [.ref x11])), (x11, .inl (ty 1, 6, .inr (.inl (fun _ => 0)))), (x12, .inr (6, [.ref x13])), (x13, .inl (ty 1, 6, .inr (.inl (fun _ => 0)))), (x19, .inl (ty 0, 384, .inl (fun j => if j < 384 then (-1) else 0)))]))) (wq_B D (va_A [(x8, .inr (8, [.ref x1, .ref x9, .ref x10, .ref x12, .ref x14, .int 0, .ref x15, .ref x16, .ref x17, .int 0, .ref x18, .ref x19, .int 0, .int 0, .int 2, .int 0])), (x10, .inr (6, [.ref x11])), (x11, .inl (ty 1, 6, .inr (.inl (fun _ => 0)))), (x12, .inr (6, [.ref x13])), (x13, .inl (ty 1, 6, .inr (.inl (fun _ => 0)))), (x19, .inl (ty 0, 384, .inl (fun _ => 0)))] sz)) (va_A [(x8, .inr (8, [.ref x1, .ref x9, .ref x10, .ref x12, .ref x14, .int 0, .ref x15, .ref x16, .ref x17, .int 0, .ref x18, .ref x19, .int 0, .int 0, .int 2, .int 0])), (x10, .inr (6, [.ref x11])), (x11, .inl (ty 1, 6, .inr (.inl (fun _ => 0)))), (x12, .inr (6, [.ref x13])), (x13, .inl (ty 1, 6, .inr (.inl (fun _ => 0)))), (x19, .inl (ty 0, 384, .inl (fun _ => 0)))] sz)) 0 0 (va_A [(x8, .inr (8, [.ref x1, .ref x9, .ref x10, .ref x12, .ref x14, .int 0, .ref x15, .ref x16, .ref x17, .int 0, .ref x18, .ref x19, .int 0, .int 0, .int 2, .int 0])), (x10, .inr (6, [.ref x11])), (x11, .inl (ty 1, 6, .inr (.inl (fun _ => 0)))), (x12, .inr (6, [.ref x13])), (x13, .inl (ty 1, 6, .inr (.inl (fun _ => 0)))), (x19, .inl (ty 0, 384, .inl (fun _ => 0)))] sz) := by
  refine Met.ofW (cc := cX3_numberOpenAtoms) (maxL := 2) (ret := none) (by decide) rfl ?_
  intro p e s m args below meth c s₁ B hml hv
  obtain ⟨rfl, hsz, hP, hK, hD0, hE⟩ := hv
  have hx := B.exec
  have hb := B.bytes
  have hr := B.returns
  have hts := atoms_spec (ws := vs_k_X3_numberOpenAtoms) B.pre
  have hown : s.vm.findClass RX3 = some m.cls := findClass_of_methodNamed B.named
  have hlocks := B.notSynchronized
  subst hsz
  have hD := hD0.self (sz := s.heap.size)
  generalize hAe : va_A [(x8, .inr (8, [.ref x1, .ref x9, .ref x10, .ref x12, .ref x14, .int 0, .ref x15, .ref x16, .ref x17, .int 0, .ref x18, .ref x19, .int 0, .int 0, .int 2, .int 0])), (x10, .inr (6, [.ref x11])), (x11, .inl (ty 1, 6, .inr (.inl (fun _ => 0)))), (x12, .inr (6, [.ref x13])), (x13, .inl (ty 1, 6, .inr (.inl (fun _ => 0)))), (x19, .inl (ty 0, 384, .inl (fun _ => 0)))] s.heap.size = A at hD hE ⊢
  have hA : ∀ q : Nat, s.heap.size ≤ q → A q := fun q h => by rw [← hAe]; exact Or.inr h
  have hS : va_S A s.heap s.heap [] := va_S.rf
  have hP : va_P D vwCl [(x8, .inr (8, [.ref x1, .ref x9, .ref x10, .ref x12, .ref x14, .int 0, .ref x15, .ref x16, .ref x17, .int 0, .ref x18, .ref x19, .int 0, .int 0, .int 2, .int 0])), (x10, .inr (6, [.ref x11])), (x11, .inl (ty 1, 6, .inr (.inl (fun _ => 0)))), (x12, .inr (6, [.ref x13])), (x13, .inl (ty 1, 6, .inr (.inl (fun _ => 0)))), (x19, .inl (ty 0, 384, .inl (fun _ => 0)))] s.heap := hP
  have hl := lv_entry ([.ref x8]) (n := 2) (Nat.le_of_ble_eq_true rfl)
  rw [lg_entry_eq]
  generalize (lg_sl ([.ref x8]) ++ List.replicate (2 - (lg_sl ([.ref x8])).length) Slot.unset).toArray = ls at hl ⊢
  have hl : lv_has ls 2 [(0, .ref x8)] := hl
  refine lv_aload_n hx hb dX3_numberOpenAtoms_0 rfl (lv_at hl 0 rfl) ?_
  refine lv_iconst (v := 0) hx hb dX3_numberOpenAtoms_1 (by decide) ?_
  refine va_put (D := D) (ci := 8) (v := .int 0) (ty := tyX3 12) (C := RX3) (T := TX3) (N := 16) hx hb hts iv_k_X3_numberOpenAtoms_X3 tyX3 tyX3_ok nmX3 hown hK hP hD hS 0 rfl rfl 12 (by decide) (hts (.fieldLink RX3 216 "AnswerFold$Grounding" "openCount" "I") (by decide +kernel)) (fun _ h9 => h9) rfl (by decide +kernel) rfl rfl (Nat.le_of_ble_eq_true rfl) dX3_numberOpenAtoms_2 (fun H locs hP hD hS => ?_)
  have hP : va_P D vwCl [(x8, .inr (8, [.ref x1, .ref x9, .ref x10, .ref x12, .ref x14, .int 0, .ref x15, .ref x16, .ref x17, .int 0, .ref x18, .ref x19, .int 0, .int 0, .int 2, .int 0])), (x10, .inr (6, [.ref x11])), (x11, .inl (ty 1, 6, .inr (.inl (fun _ => 0)))), (x12, .inr (6, [.ref x13])), (x13, .inl (ty 1, 6, .inr (.inl (fun _ => 0)))), (x19, .inl (ty 0, 384, .inl (fun _ => 0)))] H := hP
  have hD : va_D A [(x8, .inr (8, [.ref x1, .ref x9, .ref x10, .ref x12, .ref x14, .int 0, .ref x15, .ref x16, .ref x17, .int 0, .ref x18, .ref x19, .int 0, .int 0, .int 2, .int 0])), (x10, .inr (6, [.ref x11])), (x11, .inl (ty 1, 6, .inr (.inl (fun _ => 0)))), (x12, .inr (6, [.ref x13])), (x13, .inl (ty 1, 6, .inr (.inl (fun _ => 0)))), (x19, .inl (ty 0, 384, .inl (fun _ => 0)))] := hD
  refine lv_iconst (v := 0) hx hb dX3_numberOpenAtoms_5 (by decide) ?_
  refine lv_istore_n (lv' := [(1, .int 0), (0, .ref x8)]) hx hb dX3_numberOpenAtoms_6 rfl hl (by decide) rfl (fun ls hl => ?_)
  have hf : (fun j => if j < 0 then (-1) else 0 : Nat → Int32) = fun _ => 0 := wq_fill0.symm
  have hP : va_P D vwCl [(x8, .inr (8, [.ref x1, .ref x9, .ref x10, .ref x12, .ref x14, .int 0, .ref x15, .ref x16, .ref x17, .int 0, .ref x18, .ref x19, .int 0, .int 0, .int 2, .int 0])), (x10, .inr (6, [.ref x11])), (x11, .inl (ty 1, 6, .inr (.inl (fun _ => 0)))), (x12, .inr (6, [.ref x13])), (x13, .inl (ty 1, 6, .inr (.inl (fun _ => 0)))), (x19, .inl (ty 0, 384, .inl (fun j => if j < 0 then (-1) else 0)))] H := by rw [hf]; exact hP
  have hD : va_D A [(x8, .inr (8, [.ref x1, .ref x9, .ref x10, .ref x12, .ref x14, .int 0, .ref x15, .ref x16, .ref x17, .int 0, .ref x18, .ref x19, .int 0, .int 0, .int 2, .int 0])), (x10, .inr (6, [.ref x11])), (x11, .inl (ty 1, 6, .inr (.inl (fun _ => 0)))), (x12, .inr (6, [.ref x13])), (x13, .inl (ty 1, 6, .inr (.inl (fun _ => 0)))), (x19, .inl (ty 0, 384, .inl (fun j => if j < 0 then (-1) else 0)))] := by rw [hf]; exact hD
  have LOOP : ∀ (n i : Nat), i ≤ 384 → 384 - i < n → ∀ (H : Heap) (locs : List Loc), va_P D vwCl [(x8, .inr (8, [.ref x1, .ref x9, .ref x10, .ref x12, .ref x14, .int 0, .ref x15, .ref x16, .ref x17, .int 0, .ref x18, .ref x19, .int 0, .int 0, .int 2, .int 0])), (x10, .inr (6, [.ref x11])), (x11, .inl (ty 1, 6, .inr (.inl (fun _ => 0)))), (x12, .inr (6, [.ref x13])), (x13, .inl (ty 1, 6, .inr (.inl (fun _ => 0)))), (x19, .inl (ty 0, 384, .inl (fun j => if j < i then (-1) else 0)))] H → va_D A [(x8, .inr (8, [.ref x1, .ref x9, .ref x10, .ref x12, .ref x14, .int 0, .ref x15, .ref x16, .ref x17, .int 0, .ref x18, .ref x19, .int 0, .int 0, .int 2, .int 0])), (x10, .inr (6, [.ref x11])), (x11, .inl (ty 1, 6, .inr (.inl (fun _ => 0)))), (x12, .inr (6, [.ref x13])), (x13, .inl (ty 1, 6, .inr (.inl (fun _ => 0)))), (x19, .inl (ty 0, 384, .inl (fun j => if j < i then (-1) else 0)))] → va_S A s.heap H locs → ∀ ls : Array Slot, lv_has ls 2 [(1, .int (nI i)), (0, .ref x8)] → W p l e (headSpec vs_k_X3_numberOpenAtoms { frames := 1, cells := 0, slots := 0, locals := 21 }).room s m ([.ref x8] : List Value).toArray below meth c H locs 0 0 (MQ below (va_Qv (fun u : va_W => ((u = [(x8, .inr (8, [.ref x1, .ref x9, .ref x10, .ref x12, .ref x14, .int 0, .ref x15, .ref x16, .ref x17, .int 0, .ref x18, .ref x19, .int 0, .int 0, .int 2, .int 0])), (x10, .inr (6, [.ref x11])), (x11, .inl (ty 1, 6, .inr (.inl (fun _ => 0)))), (x12, .inr (6, [.ref x13])), (x13, .inl (ty 1, 6, .inr (.inl (fun _ => 0)))), (x19, .inl (ty 0, 384, .inl (fun j => if j < 384 then (-1) else 0)))]))) (wq_B D A) A) ([.ref x8] : List Value).toArray s 0 0 A) (F0 m 7 ls []) := by
    intro n
    induction n with
    | zero => intro i h1 h2; omega
    | succ n ih =>
      intro i hi hn H locs hP hD hS ls hl
      refine lv_iload_n hx hb dX3_numberOpenAtoms_7 rfl (lv_at hl 0 rfl) ?_
      refine lv_sipush (v := 384) hx hb dX3_numberOpenAtoms_8 (by decide) ?_
      refine lv_icmp_ge (tgt := 89) hx hb dX3_numberOpenAtoms_11 (by decide) (fun c0 => ?_) (fun c0 => ?_)
      · have hiN : i = 384 := wq_geN (N := 384) c0 hi (by decide)
        subst hiN
        have hl : lv_has ls 2 [(1, .int 384), (0, .ref x8)] := hl
        have hP : va_P D vwCl [(x8, .inr (8, [.ref x1, .ref x9, .ref x10, .ref x12, .ref x14, .int 0, .ref x15, .ref x16, .ref x17, .int 0, .ref x18, .ref x19, .int 0, .int 0, .int 2, .int 0])), (x10, .inr (6, [.ref x11])), (x11, .inl (ty 1, 6, .inr (.inl (fun _ => 0)))), (x12, .inr (6, [.ref x13])), (x13, .inl (ty 1, 6, .inr (.inl (fun _ => 0)))), (x19, .inl (ty 0, 384, .inl (fun j => if j < 384 then (-1) else 0)))] H := hP
        have hD : va_D A [(x8, .inr (8, [.ref x1, .ref x9, .ref x10, .ref x12, .ref x14, .int 0, .ref x15, .ref x16, .ref x17, .int 0, .ref x18, .ref x19, .int 0, .int 0, .int 2, .int 0])), (x10, .inr (6, [.ref x11])), (x11, .inl (ty 1, 6, .inr (.inl (fun _ => 0)))), (x12, .inr (6, [.ref x13])), (x13, .inl (ty 1, 6, .inr (.inl (fun _ => 0)))), (x19, .inl (ty 0, 384, .inl (fun j => if j < 384 then (-1) else 0)))] := hD
        have hP9 := hP.sub (ws' := [(x8, .inr (8, [.ref x1, .ref x9, .ref x10, .ref x12, .ref x14, .int 0, .ref x15, .ref x16, .ref x17, .int 0, .ref x18, .ref x19, .int 0, .int 0, .int 2, .int 0])), (x10, .inr (6, [.ref x11])), (x11, .inl (ty 1, 6, .inr (.inl (fun _ => 0)))), (x12, .inr (6, [.ref x13])), (x13, .inl (ty 1, 6, .inr (.inl (fun _ => 0)))), (x19, .inl (ty 0, 384, .inl (fun j => if j < 384 then (-1) else 0)))]) [0, 1, 2, 3, 4, 5] rfl
        have hD9 := hD.sub (ws' := [(x8, .inr (8, [.ref x1, .ref x9, .ref x10, .ref x12, .ref x14, .int 0, .ref x15, .ref x16, .ref x17, .int 0, .ref x18, .ref x19, .int 0, .int 0, .int 2, .int 0])), (x10, .inr (6, [.ref x11])), (x11, .inl (ty 1, 6, .inr (.inl (fun _ => 0)))), (x12, .inr (6, [.ref x13])), (x13, .inl (ty 1, 6, .inr (.inl (fun _ => 0)))), (x19, .inl (ty 0, 384, .inl (fun j => if j < 384 then (-1) else 0)))]) [0, 1, 2, 3, 4, 5] (by decide) rfl
        refine W.widen (k := 0) (n := 0) (Nat.le_of_ble_eq_true rfl) (Nat.le_of_ble_eq_true rfl) ?_
        exact W.vret hx hb hr (fun t ht hW => ⟨⟨[(x8, .inr (8, [.ref x1, .ref x9, .ref x10, .ref x12, .ref x14, .int 0, .ref x15, .ref x16, .ref x17, .int 0, .ref x18, .ref x19, .int 0, .int 0, .int 2, .int 0])), (x10, .inr (6, [.ref x11])), (x11, .inl (ty 1, 6, .inr (.inl (fun _ => 0)))), (x12, .inr (6, [.ref x13])), (x13, .inl (ty 1, 6, .inr (.inl (fun _ => 0)))), (x19, .inl (ty 0, 384, .inl (fun j => if j < 384 then (-1) else 0)))], rfl, rfl, wq_B.of ht hP9 hD9⟩, hS.F ht⟩) hS.2.2 dX3_numberOpenAtoms_89
      · have hlt : i < 384 := wq_ltN (N := 384) c0 hi (by decide)
        refine lv_aload_n hx hb dX3_numberOpenAtoms_14 rfl (lv_at hl 1 rfl) ?_
        refine va_get (D := D) (ci := 8) (v := .ref x19) (C := RX3) (T := TX3) (N := 16) hx hb hts iv_k_X3_numberOpenAtoms_X3 hown hK hP 0 rfl rfl 11 (by decide) (hts (.fieldLink RX3 44 "AnswerFold$Grounding" "openNumbers" "[I") (by decide +kernel)) (fun _ h9 => h9) rfl dX3_numberOpenAtoms_15 ?_
        refine lv_iload_n hx hb dX3_numberOpenAtoms_18 rfl (lv_at hl 0 rfl) ?_
        refine lv_iconst (v := (-1)) hx hb dX3_numberOpenAtoms_19 (by decide) ?_
        refine va_iast (D := D) hx hb hK hP hD hS 5 0 rfl rfl (by first | assumption | exact vp_in_nI (by omega) (by omega)) dX3_numberOpenAtoms_20 (fun H locs hP hD hS => ?_)
        have hP : va_P D vwCl [(x8, .inr (8, [.ref x1, .ref x9, .ref x10, .ref x12, .ref x14, .int 0, .ref x15, .ref x16, .ref x17, .int 0, .ref x18, .ref x19, .int 0, .int 0, .int 2, .int 0])), (x10, .inr (6, [.ref x11])), (x11, .inl (ty 1, 6, .inr (.inl (fun _ => 0)))), (x12, .inr (6, [.ref x13])), (x13, .inl (ty 1, 6, .inr (.inl (fun _ => 0)))), (x19, .inl (ty 0, 384, .inl (upd (fun j => if j < i then (-1) else 0) (nI i).toNatClampNeg (-1))))] H := hP
        have hD : va_D A [(x8, .inr (8, [.ref x1, .ref x9, .ref x10, .ref x12, .ref x14, .int 0, .ref x15, .ref x16, .ref x17, .int 0, .ref x18, .ref x19, .int 0, .int 0, .int 2, .int 0])), (x10, .inr (6, [.ref x11])), (x11, .inl (ty 1, 6, .inr (.inl (fun _ => 0)))), (x12, .inr (6, [.ref x13])), (x13, .inl (ty 1, 6, .inr (.inl (fun _ => 0)))), (x19, .inl (ty 0, 384, .inl (upd (fun j => if j < i then (-1) else 0) (nI i).toNatClampNeg (-1))))] := hD
        refine lv_aload_n hx hb dX3_numberOpenAtoms_21 rfl (lv_at hl 1 rfl) ?_
        refine va_get (D := D) (ci := 8) (v := .ref x12) (C := RX3) (T := TX3) (N := 16) hx hb hts iv_k_X3_numberOpenAtoms_X3 hown hK hP 0 rfl rfl 3 (by decide) (hts (.fieldLink RX3 25 "AnswerFold$Grounding" "possible" "LAnswerFold$AtomSet;") (by decide +kernel)) (fun _ h9 => h9) rfl dX3_numberOpenAtoms_22 ?_
        refine lv_iload_n hx hb dX3_numberOpenAtoms_25 rfl (lv_at hl 0 rfl) ?_
        refine wq_i (wc := [(x12, .inr (6, [.ref x13])), (x13, .inl (ty 1, 6, .inr (.inl (fun _ => 0))))]) (wr := [(x8, .inr (8, [.ref x1, .ref x9, .ref x10, .ref x12, .ref x14, .int 0, .ref x15, .ref x16, .ref x17, .int 0, .ref x18, .ref x19, .int 0, .int 0, .int 2, .int 0])), (x10, .inr (6, [.ref x11])), (x11, .inl (ty 1, 6, .inr (.inl (fun _ => 0)))), (x19, .inl (ty 0, 384, .inl (upd (fun j => if j < i then (-1) else 0) (nI i).toNatClampNeg (-1))))]) (va_runV (As := [.int (nI i)]) (rest := []) ⟨hx, hb, hml, hown, hts⟩ (k_X1_contains l D ty td mi H.size x12 x13 (nI i)) (cwV 1 hts gv_k_X3_numberOpenAtoms_0 rfl rfl rfl (by decide +kernel) ⟨(Nat.le_of_ble_eq_true rfl), (Nat.le_of_ble_eq_true rfl)⟩) (wq_preV hP hD hK hE hS hA [3, 4] rfl (by decide) 3 6 rfl rfl) rfl rfl hl.1 rfl (lv_room (Nat.le_of_ble_eq_true rfl)) dX3_numberOpenAtoms_26 ⟨(Nat.le_of_ble_eq_true rfl), (Nat.le_of_ble_eq_true rfl)⟩) hS hA hP hD [3, 4] [0, 1, 2, 5] rfl rfl (by decide) (by decide) (fun r u H locs hw hP hD hS => ?_)
        obtain ⟨rfl, rfl⟩ := hw
        have hP : va_P D vwCl [(x8, .inr (8, [.ref x1, .ref x9, .ref x10, .ref x12, .ref x14, .int 0, .ref x15, .ref x16, .ref x17, .int 0, .ref x18, .ref x19, .int 0, .int 0, .int 2, .int 0])), (x10, .inr (6, [.ref x11])), (x11, .inl (ty 1, 6, .inr (.inl (fun _ => 0)))), (x19, .inl (ty 0, 384, .inl (upd (fun j => if j < i then (-1) else 0) (nI i).toNatClampNeg (-1)))), (x12, .inr (6, [.ref x13])), (x13, .inl (ty 1, 6, .inr (.inl (fun _ => 0))))] H := hP
        have hD : va_D A [(x8, .inr (8, [.ref x1, .ref x9, .ref x10, .ref x12, .ref x14, .int 0, .ref x15, .ref x16, .ref x17, .int 0, .ref x18, .ref x19, .int 0, .int 0, .int 2, .int 0])), (x10, .inr (6, [.ref x11])), (x11, .inl (ty 1, 6, .inr (.inl (fun _ => 0)))), (x19, .inl (ty 0, 384, .inl (upd (fun j => if j < i then (-1) else 0) (nI i).toNatClampNeg (-1)))), (x12, .inr (6, [.ref x13])), (x13, .inl (ty 1, 6, .inr (.inl (fun _ => 0))))] := hD
        refine W.widen (k := 0) (n := 0) (Nat.le_of_ble_eq_true rfl) (Nat.le_of_ble_eq_true rfl) ?_
        refine lv_if_eq (tgt := 83) hx hb dX3_numberOpenAtoms_29 (by decide) (fun _ => ?_) (fun c0 => absurd (by decide) c0)
        refine lv_iinc (v := nI (i + 1)) (lv' := [(1, .int (nI (i + 1))), (0, .ref x8)]) hx hb dX3_numberOpenAtoms_83 hl (k := 0) rfl (by exact nI_1 i) (by decide) rfl (fun ls hl => ?_)
        refine lv_goto (tgt := 7) hx hb dX3_numberOpenAtoms_86 (by decide) ?_
        have hf : (fun j => if j < (i + 1) then (-1) else 0 : Nat → Int32) = upd (fun j => if j < i then (-1) else 0) (nI i).toNatClampNeg (-1) := (wq_fill (by omega)).symm
        have hP : va_P D vwCl [(x8, .inr (8, [.ref x1, .ref x9, .ref x10, .ref x12, .ref x14, .int 0, .ref x15, .ref x16, .ref x17, .int 0, .ref x18, .ref x19, .int 0, .int 0, .int 2, .int 0])), (x10, .inr (6, [.ref x11])), (x11, .inl (ty 1, 6, .inr (.inl (fun _ => 0)))), (x19, .inl (ty 0, 384, .inl (fun j => if j < (i + 1) then (-1) else 0))), (x12, .inr (6, [.ref x13])), (x13, .inl (ty 1, 6, .inr (.inl (fun _ => 0))))] H := by rw [hf]; exact hP
        have hD : va_D A [(x8, .inr (8, [.ref x1, .ref x9, .ref x10, .ref x12, .ref x14, .int 0, .ref x15, .ref x16, .ref x17, .int 0, .ref x18, .ref x19, .int 0, .int 0, .int 2, .int 0])), (x10, .inr (6, [.ref x11])), (x11, .inl (ty 1, 6, .inr (.inl (fun _ => 0)))), (x19, .inl (ty 0, 384, .inl (fun j => if j < (i + 1) then (-1) else 0))), (x12, .inr (6, [.ref x13])), (x13, .inl (ty 1, 6, .inr (.inl (fun _ => 0))))] := by rw [hf]; exact hD
        have hP : va_P D vwCl [(x8, .inr (8, [.ref x1, .ref x9, .ref x10, .ref x12, .ref x14, .int 0, .ref x15, .ref x16, .ref x17, .int 0, .ref x18, .ref x19, .int 0, .int 0, .int 2, .int 0])), (x10, .inr (6, [.ref x11])), (x11, .inl (ty 1, 6, .inr (.inl (fun _ => 0)))), (x19, .inl (ty 0, 384, .inl (fun j => if j < (i + 1) then (-1) else 0))), (x12, .inr (6, [.ref x13])), (x13, .inl (ty 1, 6, .inr (.inl (fun _ => 0))))] H := hP
        have hD : va_D A [(x8, .inr (8, [.ref x1, .ref x9, .ref x10, .ref x12, .ref x14, .int 0, .ref x15, .ref x16, .ref x17, .int 0, .ref x18, .ref x19, .int 0, .int 0, .int 2, .int 0])), (x10, .inr (6, [.ref x11])), (x11, .inl (ty 1, 6, .inr (.inl (fun _ => 0)))), (x19, .inl (ty 0, 384, .inl (fun j => if j < (i + 1) then (-1) else 0))), (x12, .inr (6, [.ref x13])), (x13, .inl (ty 1, 6, .inr (.inl (fun _ => 0))))] := hD
        exact ih (i + 1) (by omega) (by omega) _ _ (hP.sub [0, 1, 2, 4, 5, 3] rfl) (hD.sub [0, 1, 2, 4, 5, 3] (by decide) rfl) hS _ (lv_sub hl [0, 1] rfl)
  exact LOOP 385 0 (by omega) (by omega) _ _ hP hD hS _ hl
def vs_k_X3_refresh : List Cond := .code yX3_refresh cX3_refresh 1 none :: ([.fieldLink RX3 51 "AnswerFold$Grounding" "isCurrent" "Z", .fieldLink RX3 21 "AnswerFold$Grounding" "sure" "LAnswerFold$AtomSet;", .methodLink RX3 55 yX1_clear, .instanceMethod yX1_clear, .selects RX1 yX1_clear yX1_clear, .initialized RX1, .fieldLink RX3 25 "AnswerFold$Grounding" "possible" "LAnswerFold$AtomSet;", .methodLink RX3 58 yX3_beginWithExternals, .instanceMethod yX3_beginWithExternals, .selects RX3 yX3_beginWithExternals yX3_beginWithExternals, .initialized RX3, .fieldLink RX3 61 "AnswerFold$Grounding" "purpose" "I", .methodLink RX3 65 yX3_spread, .instanceMethod yX3_spread, .selects RX3 yX3_spread yX3_spread, .methodLink RX3 68 yX3_keepInstances, .instanceMethod yX3_keepInstances, .selects RX3 yX3_keepInstances yX3_keepInstances, .methodLink RX3 71 yX3_numberOpenAtoms, .instanceMethod yX3_numberOpenAtoms, .selects RX3 yX3_numberOpenAtoms yX3_numberOpenAtoms] ++ (u_ws RX3 TX3 16 ++ (vs_k_X1_clear ++ (vs_k_X3_beginWithExternals ++ (vs_k_X3_spread_0 ++ (vs_k_X3_spread_1 ++ (vs_k_X3_keepInstances ++ (vs_k_X3_numberOpenAtoms))))))))
theorem iv_k_X3_refresh_X3 : ∀ w ∈ u_ws RX3 TX3 16, w ∈ vs_k_X3_refresh := (fun _ h => List.mem_cons_of_mem _ (List.mem_append_right _ (List.mem_append_left _ h)))
set_option maxRecDepth 20000 in
theorem gv_k_X3_refresh_0 : GoodIn vs_k_X3_refresh (wsV RX3 55 RX1 yX1_clear vs_k_X1_clear) := goodIn_app (goodIn_sub (by decide +kernel) (by decide +kernel)) (goodIn_sub (fun _ h => List.mem_cons_of_mem _ (List.mem_append_right _ (List.mem_append_right _ (List.mem_append_left _ h)))) (by decide +kernel))
set_option maxRecDepth 20000 in
theorem gv_k_X3_refresh_1 : GoodIn vs_k_X3_refresh (wsV RX3 55 RX1 yX1_clear vs_k_X1_clear) := goodIn_app (goodIn_sub (by decide +kernel) (by decide +kernel)) (goodIn_sub (fun _ h => List.mem_cons_of_mem _ (List.mem_append_right _ (List.mem_append_right _ (List.mem_append_left _ h)))) (by decide +kernel))
set_option maxRecDepth 20000 in
theorem gv_k_X3_refresh_2 : GoodIn vs_k_X3_refresh (wsV RX3 58 RX3 yX3_beginWithExternals vs_k_X3_beginWithExternals) := goodIn_app (goodIn_sub (by decide +kernel) (by decide +kernel)) (goodIn_sub (fun _ h => List.mem_cons_of_mem _ (List.mem_append_right _ (List.mem_append_right _ (List.mem_append_right _ (List.mem_append_left _ h))))) (by decide +kernel))
set_option maxRecDepth 20000 in
theorem gv_k_X3_refresh_3 : GoodIn vs_k_X3_refresh (wsV RX3 65 RX3 yX3_spread vs_k_X3_spread_0) := goodIn_app (goodIn_sub (by decide +kernel) (by decide +kernel)) (goodIn_sub (fun _ h => List.mem_cons_of_mem _ (List.mem_append_right _ (List.mem_append_right _ (List.mem_append_right _ (List.mem_append_right _ (List.mem_append_left _ h)))))) (by decide +kernel))
set_option maxRecDepth 20000 in
theorem gv_k_X3_refresh_4 : GoodIn vs_k_X3_refresh (wsV RX3 65 RX3 yX3_spread vs_k_X3_spread_1) := goodIn_app (goodIn_sub (by decide +kernel) (by decide +kernel)) (goodIn_sub (fun _ h => List.mem_cons_of_mem _ (List.mem_append_right _ (List.mem_append_right _ (List.mem_append_right _ (List.mem_append_right _ (List.mem_append_right _ (List.mem_append_left _ h))))))) (by decide +kernel))
set_option maxRecDepth 20000 in
theorem gv_k_X3_refresh_5 : GoodIn vs_k_X3_refresh (wsV RX3 68 RX3 yX3_keepInstances vs_k_X3_keepInstances) := goodIn_app (goodIn_sub (by decide +kernel) (by decide +kernel)) (goodIn_sub (fun _ h => List.mem_cons_of_mem _ (List.mem_append_right _ (List.mem_append_right _ (List.mem_append_right _ (List.mem_append_right _ (List.mem_append_right _ (List.mem_append_right _ (List.mem_append_left _ h)))))))) (by decide +kernel))
set_option maxRecDepth 20000 in
theorem gv_k_X3_refresh_6 : GoodIn vs_k_X3_refresh (wsV RX3 71 RX3 yX3_numberOpenAtoms vs_k_X3_numberOpenAtoms) := goodIn_app (goodIn_sub (by decide +kernel) (by decide +kernel)) (goodIn_sub (fun _ h => List.mem_cons_of_mem _ (List.mem_append_right _ (List.mem_append_right _ (List.mem_append_right _ (List.mem_append_right _ (List.mem_append_right _ (List.mem_append_right _ (List.mem_append_right _ (h))))))))) (by decide +kernel))
set_option maxHeartbeats 4000000 in
set_option maxRecDepth 100000 in
theorem k_X3_refresh (l : Launch) (D : va_G) (ty : Nat → ClassId) (td mi sz : Nat) (x8 : Nat) (x1 : Nat) (x9 : Nat) (x10 : Nat) (x12 : Nat) (x14 : Nat) (x15 : Nat) (x16 : Nat) (x17 : Nat) (x18 : Nat) (x19 : Nat) (x2 : Nat) (x3 : Nat) (x4 : Nat) (x5 : Nat) (x6 : Nat) (x7 : Nat) (x11 : Nat) (x13 : Nat) : Met l yX3_refresh vs_k_X3_refresh { frames := 2, cells := 0, slots := 0, locals := 49 } (va_Pc [.ref x8] (wq_P D ty td mi [(x8, .inr (8, [.ref x1, .ref x9, .ref x10, .ref x12, .ref x14, .int 0, .ref x15, .ref x16, .ref x17, .int 0, .ref x18, .ref x19, .int 0, .int 0, .int 0, .int 0])), (x1, .inr (11, [.ref x2, .int 0, .ref x3, .int 0, .ref x4, .ref x5, .int 1, .ref x6, .ref x7, .int 0])), (x10, .inr (6, [.ref x11])), (x11, .inl (ty 1, 6, .inr (.inl (fun _ => 0)))), (x12, .inr (6, [.ref x13])), (x13, .inl (ty 1, 6, .inr (.inl (fun _ => 0)))), (x17, .inl (ty 0, 20, .inl (fun _ => 0))), (x19, .inl (ty 0, 384, .inl (fun _ => 0)))] sz)) (va_Qv (fun u : va_W => ((u = [(x17, .inl (ty 0, 20, .inl (fun _ => 0))), (x1, .inr (11, [.ref x2, .int 0, .ref x3, .int 0, .ref x4, .ref x5, .int 1, .ref x6, .ref x7, .int 0])), (x8, .inr (8, [.ref x1, .ref x9, .ref x10, .ref x12, .ref x14, .int 0, .ref x15, .ref x16, .ref x17, .int 0, .ref x18, .ref x19, .int 0, .int 1, .int 2, .int 0])), (x10, .inr (6, [.ref x11])), (x11, .inl (ty 1, 6, .inr (.inl (fun _ => 0)))), (x12, .inr (6, [.ref x13])), (x13, .inl (ty 1, 6, .inr (.inl (fun _ => 0)))), (x19, .inl (ty 0, 384, .inl (fun j => if j < 384 then (-1) else 0)))]))) (wq_B D (va_A [(x8, .inr (8, [.ref x1, .ref x9, .ref x10, .ref x12, .ref x14, .int 0, .ref x15, .ref x16, .ref x17, .int 0, .ref x18, .ref x19, .int 0, .int 0, .int 0, .int 0])), (x1, .inr (11, [.ref x2, .int 0, .ref x3, .int 0, .ref x4, .ref x5, .int 1, .ref x6, .ref x7, .int 0])), (x10, .inr (6, [.ref x11])), (x11, .inl (ty 1, 6, .inr (.inl (fun _ => 0)))), (x12, .inr (6, [.ref x13])), (x13, .inl (ty 1, 6, .inr (.inl (fun _ => 0)))), (x17, .inl (ty 0, 20, .inl (fun _ => 0))), (x19, .inl (ty 0, 384, .inl (fun _ => 0)))] sz)) (va_A [(x8, .inr (8, [.ref x1, .ref x9, .ref x10, .ref x12, .ref x14, .int 0, .ref x15, .ref x16, .ref x17, .int 0, .ref x18, .ref x19, .int 0, .int 0, .int 0, .int 0])), (x1, .inr (11, [.ref x2, .int 0, .ref x3, .int 0, .ref x4, .ref x5, .int 1, .ref x6, .ref x7, .int 0])), (x10, .inr (6, [.ref x11])), (x11, .inl (ty 1, 6, .inr (.inl (fun _ => 0)))), (x12, .inr (6, [.ref x13])), (x13, .inl (ty 1, 6, .inr (.inl (fun _ => 0)))), (x17, .inl (ty 0, 20, .inl (fun _ => 0))), (x19, .inl (ty 0, 384, .inl (fun _ => 0)))] sz)) 0 0 (va_A [(x8, .inr (8, [.ref x1, .ref x9, .ref x10, .ref x12, .ref x14, .int 0, .ref x15, .ref x16, .ref x17, .int 0, .ref x18, .ref x19, .int 0, .int 0, .int 0, .int 0])), (x1, .inr (11, [.ref x2, .int 0, .ref x3, .int 0, .ref x4, .ref x5, .int 1, .ref x6, .ref x7, .int 0])), (x10, .inr (6, [.ref x11])), (x11, .inl (ty 1, 6, .inr (.inl (fun _ => 0)))), (x12, .inr (6, [.ref x13])), (x13, .inl (ty 1, 6, .inr (.inl (fun _ => 0)))), (x17, .inl (ty 0, 20, .inl (fun _ => 0))), (x19, .inl (ty 0, 384, .inl (fun _ => 0)))] sz) := by
  refine Met.ofW (cc := cX3_refresh) (maxL := 1) (ret := none) (by decide) rfl ?_
  intro p e s m args below meth c s₁ B hml hv
  obtain ⟨rfl, hsz, hP, hK, hD0, hE⟩ := hv
  have hx := B.exec
  have hb := B.bytes
  have hr := B.returns
  have hts := atoms_spec (ws := vs_k_X3_refresh) B.pre
  have hown : s.vm.findClass RX3 = some m.cls := findClass_of_methodNamed B.named
  have hlocks := B.notSynchronized
  subst hsz
  have hD := hD0.self (sz := s.heap.size)
  generalize hAe : va_A [(x8, .inr (8, [.ref x1, .ref x9, .ref x10, .ref x12, .ref x14, .int 0, .ref x15, .ref x16, .ref x17, .int 0, .ref x18, .ref x19, .int 0, .int 0, .int 0, .int 0])), (x1, .inr (11, [.ref x2, .int 0, .ref x3, .int 0, .ref x4, .ref x5, .int 1, .ref x6, .ref x7, .int 0])), (x10, .inr (6, [.ref x11])), (x11, .inl (ty 1, 6, .inr (.inl (fun _ => 0)))), (x12, .inr (6, [.ref x13])), (x13, .inl (ty 1, 6, .inr (.inl (fun _ => 0)))), (x17, .inl (ty 0, 20, .inl (fun _ => 0))), (x19, .inl (ty 0, 384, .inl (fun _ => 0)))] s.heap.size = A at hD hE ⊢
  have hA : ∀ q : Nat, s.heap.size ≤ q → A q := fun q h => by rw [← hAe]; exact Or.inr h
  have hS : va_S A s.heap s.heap [] := va_S.rf
  have hP : va_P D vwCl [(x8, .inr (8, [.ref x1, .ref x9, .ref x10, .ref x12, .ref x14, .int 0, .ref x15, .ref x16, .ref x17, .int 0, .ref x18, .ref x19, .int 0, .int 0, .int 0, .int 0])), (x1, .inr (11, [.ref x2, .int 0, .ref x3, .int 0, .ref x4, .ref x5, .int 1, .ref x6, .ref x7, .int 0])), (x10, .inr (6, [.ref x11])), (x11, .inl (ty 1, 6, .inr (.inl (fun _ => 0)))), (x12, .inr (6, [.ref x13])), (x13, .inl (ty 1, 6, .inr (.inl (fun _ => 0)))), (x17, .inl (ty 0, 20, .inl (fun _ => 0))), (x19, .inl (ty 0, 384, .inl (fun _ => 0)))] s.heap := hP
  have hl := lv_entry ([.ref x8]) (n := 1) (Nat.le_of_ble_eq_true rfl)
  rw [lg_entry_eq]
  generalize (lg_sl ([.ref x8]) ++ List.replicate (1 - (lg_sl ([.ref x8])).length) Slot.unset).toArray = ls at hl ⊢
  have hl : lv_has ls 1 [(0, .ref x8)] := hl
  refine lv_aload_n hx hb dX3_refresh_0 rfl (lv_at hl 0 rfl) ?_
  refine va_get (D := D) (ci := 8) (v := .int 0) (C := RX3) (T := TX3) (N := 16) hx hb hts iv_k_X3_refresh_X3 hown hK hP 0 rfl rfl 13 (by decide) (hts (.fieldLink RX3 51 "AnswerFold$Grounding" "isCurrent" "Z") (by decide +kernel)) (fun _ h9 => h9) rfl dX3_refresh_1 ?_
  refine lv_if_eq (tgt := 8) hx hb dX3_refresh_4 (by decide) (fun _ => ?_) (fun c0 => absurd (by decide) c0)
  refine lv_aload_n hx hb dX3_refresh_8 rfl (lv_at hl 0 rfl) ?_
  refine va_get (D := D) (ci := 8) (v := .ref x10) (C := RX3) (T := TX3) (N := 16) hx hb hts iv_k_X3_refresh_X3 hown hK hP 0 rfl rfl 2 (by decide) (hts (.fieldLink RX3 21 "AnswerFold$Grounding" "sure" "LAnswerFold$AtomSet;") (by decide +kernel)) (fun _ h9 => h9) rfl dX3_refresh_9 ?_
  refine wq_v (wc := [(x10, .inr (6, [.ref x11])), (x11, .inl (ty 1, 6, .inr (.inl (fun _ => 0))))]) (wr := [(x8, .inr (8, [.ref x1, .ref x9, .ref x10, .ref x12, .ref x14, .int 0, .ref x15, .ref x16, .ref x17, .int 0, .ref x18, .ref x19, .int 0, .int 0, .int 0, .int 0])), (x1, .inr (11, [.ref x2, .int 0, .ref x3, .int 0, .ref x4, .ref x5, .int 1, .ref x6, .ref x7, .int 0])), (x12, .inr (6, [.ref x13])), (x13, .inl (ty 1, 6, .inr (.inl (fun _ => 0)))), (x17, .inl (ty 0, 20, .inl (fun _ => 0))), (x19, .inl (ty 0, 384, .inl (fun _ => 0)))]) (va_runV (As := []) (rest := []) ⟨hx, hb, hml, hown, hts⟩ (k_X1_clear l D ty td mi s.heap.size x10 x11) (cwV 0 hts gv_k_X3_refresh_0 rfl rfl rfl (by decide +kernel) ⟨(Nat.le_of_ble_eq_true rfl), (Nat.le_of_ble_eq_true rfl)⟩) (wq_preV hP hD hK hE hS hA [2, 3] rfl (by decide) 2 6 rfl rfl) rfl rfl hl.1 rfl (lv_room (Nat.le_of_ble_eq_true rfl)) dX3_refresh_12 ⟨(Nat.le_of_ble_eq_true rfl), (Nat.le_of_ble_eq_true rfl)⟩) hS hA hP hD [2, 3] [0, 1, 4, 5, 6, 7] rfl rfl (by decide) (by decide) (fun u H locs hw hP hD hS => ?_)
  obtain rfl := hw
  have hP : va_P D vwCl [(x8, .inr (8, [.ref x1, .ref x9, .ref x10, .ref x12, .ref x14, .int 0, .ref x15, .ref x16, .ref x17, .int 0, .ref x18, .ref x19, .int 0, .int 0, .int 0, .int 0])), (x1, .inr (11, [.ref x2, .int 0, .ref x3, .int 0, .ref x4, .ref x5, .int 1, .ref x6, .ref x7, .int 0])), (x12, .inr (6, [.ref x13])), (x13, .inl (ty 1, 6, .inr (.inl (fun _ => 0)))), (x17, .inl (ty 0, 20, .inl (fun _ => 0))), (x19, .inl (ty 0, 384, .inl (fun _ => 0))), (x10, .inr (6, [.ref x11])), (x11, .inl (ty 1, 6, .inr (.inl (fun _ => 0))))] H := hP
  have hD : va_D A [(x8, .inr (8, [.ref x1, .ref x9, .ref x10, .ref x12, .ref x14, .int 0, .ref x15, .ref x16, .ref x17, .int 0, .ref x18, .ref x19, .int 0, .int 0, .int 0, .int 0])), (x1, .inr (11, [.ref x2, .int 0, .ref x3, .int 0, .ref x4, .ref x5, .int 1, .ref x6, .ref x7, .int 0])), (x12, .inr (6, [.ref x13])), (x13, .inl (ty 1, 6, .inr (.inl (fun _ => 0)))), (x17, .inl (ty 0, 20, .inl (fun _ => 0))), (x19, .inl (ty 0, 384, .inl (fun _ => 0))), (x10, .inr (6, [.ref x11])), (x11, .inl (ty 1, 6, .inr (.inl (fun _ => 0))))] := hD
  refine W.widen (k := 0) (n := 0) (Nat.le_of_ble_eq_true rfl) (Nat.le_of_ble_eq_true rfl) ?_
  refine lv_aload_n hx hb dX3_refresh_15 rfl (lv_at hl 0 rfl) ?_
  refine va_get (D := D) (ci := 8) (v := .ref x12) (C := RX3) (T := TX3) (N := 16) hx hb hts iv_k_X3_refresh_X3 hown hK hP 0 rfl rfl 3 (by decide) (hts (.fieldLink RX3 25 "AnswerFold$Grounding" "possible" "LAnswerFold$AtomSet;") (by decide +kernel)) (fun _ h9 => h9) rfl dX3_refresh_16 ?_
  refine wq_v (wc := [(x12, .inr (6, [.ref x13])), (x13, .inl (ty 1, 6, .inr (.inl (fun _ => 0))))]) (wr := [(x8, .inr (8, [.ref x1, .ref x9, .ref x10, .ref x12, .ref x14, .int 0, .ref x15, .ref x16, .ref x17, .int 0, .ref x18, .ref x19, .int 0, .int 0, .int 0, .int 0])), (x1, .inr (11, [.ref x2, .int 0, .ref x3, .int 0, .ref x4, .ref x5, .int 1, .ref x6, .ref x7, .int 0])), (x17, .inl (ty 0, 20, .inl (fun _ => 0))), (x19, .inl (ty 0, 384, .inl (fun _ => 0))), (x10, .inr (6, [.ref x11])), (x11, .inl (ty 1, 6, .inr (.inl (fun _ => 0))))]) (va_runV (As := []) (rest := []) ⟨hx, hb, hml, hown, hts⟩ (k_X1_clear l D ty td mi H.size x12 x13) (cwV 0 hts gv_k_X3_refresh_1 rfl rfl rfl (by decide +kernel) ⟨(Nat.le_of_ble_eq_true rfl), (Nat.le_of_ble_eq_true rfl)⟩) (wq_preV hP hD hK hE hS hA [2, 3] rfl (by decide) 2 6 rfl rfl) rfl rfl hl.1 rfl (lv_room (Nat.le_of_ble_eq_true rfl)) dX3_refresh_19 ⟨(Nat.le_of_ble_eq_true rfl), (Nat.le_of_ble_eq_true rfl)⟩) hS hA hP hD [2, 3] [0, 1, 4, 5, 6, 7] rfl rfl (by decide) (by decide) (fun u H locs hw hP hD hS => ?_)
  obtain rfl := hw
  have hP : va_P D vwCl [(x8, .inr (8, [.ref x1, .ref x9, .ref x10, .ref x12, .ref x14, .int 0, .ref x15, .ref x16, .ref x17, .int 0, .ref x18, .ref x19, .int 0, .int 0, .int 0, .int 0])), (x1, .inr (11, [.ref x2, .int 0, .ref x3, .int 0, .ref x4, .ref x5, .int 1, .ref x6, .ref x7, .int 0])), (x17, .inl (ty 0, 20, .inl (fun _ => 0))), (x19, .inl (ty 0, 384, .inl (fun _ => 0))), (x10, .inr (6, [.ref x11])), (x11, .inl (ty 1, 6, .inr (.inl (fun _ => 0)))), (x12, .inr (6, [.ref x13])), (x13, .inl (ty 1, 6, .inr (.inl (fun _ => 0))))] H := hP
  have hD : va_D A [(x8, .inr (8, [.ref x1, .ref x9, .ref x10, .ref x12, .ref x14, .int 0, .ref x15, .ref x16, .ref x17, .int 0, .ref x18, .ref x19, .int 0, .int 0, .int 0, .int 0])), (x1, .inr (11, [.ref x2, .int 0, .ref x3, .int 0, .ref x4, .ref x5, .int 1, .ref x6, .ref x7, .int 0])), (x17, .inl (ty 0, 20, .inl (fun _ => 0))), (x19, .inl (ty 0, 384, .inl (fun _ => 0))), (x10, .inr (6, [.ref x11])), (x11, .inl (ty 1, 6, .inr (.inl (fun _ => 0)))), (x12, .inr (6, [.ref x13])), (x13, .inl (ty 1, 6, .inr (.inl (fun _ => 0))))] := hD
  refine W.widen (k := 0) (n := 0) (Nat.le_of_ble_eq_true rfl) (Nat.le_of_ble_eq_true rfl) ?_
  refine lv_aload_n hx hb dX3_refresh_22 rfl (lv_at hl 0 rfl) ?_
  refine wq_v (wc := [(x8, .inr (8, [.ref x1, .ref x9, .ref x10, .ref x12, .ref x14, .int 0, .ref x15, .ref x16, .ref x17, .int 0, .ref x18, .ref x19, .int 0, .int 0, .int 0, .int 0])), (x1, .inr (11, [.ref x2, .int 0, .ref x3, .int 0, .ref x4, .ref x5, .int 1, .ref x6, .ref x7, .int 0]))]) (wr := [(x17, .inl (ty 0, 20, .inl (fun _ => 0))), (x19, .inl (ty 0, 384, .inl (fun _ => 0))), (x10, .inr (6, [.ref x11])), (x11, .inl (ty 1, 6, .inr (.inl (fun _ => 0)))), (x12, .inr (6, [.ref x13])), (x13, .inl (ty 1, 6, .inr (.inl (fun _ => 0))))]) (va_runV (As := []) (rest := []) ⟨hx, hb, hml, hown, hts⟩ (k_X3_beginWithExternals l D ty td mi H.size x8 x1 x9 x10 x12 x14 x15 x16 x17 x18 x19 x2 x3 x4 x5 x6 x7) (cwV 0 hts gv_k_X3_refresh_2 rfl rfl rfl (by decide +kernel) ⟨(Nat.le_of_ble_eq_true rfl), (Nat.le_of_ble_eq_true rfl)⟩) (wq_preV hP hD hK hE hS hA [0, 1] rfl (by decide) 0 8 rfl rfl) rfl rfl hl.1 rfl (lv_room (Nat.le_of_ble_eq_true rfl)) dX3_refresh_23 ⟨(Nat.le_of_ble_eq_true rfl), (Nat.le_of_ble_eq_true rfl)⟩) hS hA hP hD [0, 1] [2, 3, 4, 5, 6, 7] rfl rfl (by decide) (by decide) (fun u H locs hw hP hD hS => ?_)
  obtain rfl := hw
  have hP : va_P D vwCl [(x17, .inl (ty 0, 20, .inl (fun _ => 0))), (x19, .inl (ty 0, 384, .inl (fun _ => 0))), (x10, .inr (6, [.ref x11])), (x11, .inl (ty 1, 6, .inr (.inl (fun _ => 0)))), (x12, .inr (6, [.ref x13])), (x13, .inl (ty 1, 6, .inr (.inl (fun _ => 0)))), (x8, .inr (8, [.ref x1, .ref x9, .ref x10, .ref x12, .ref x14, .int 0, .ref x15, .ref x16, .ref x17, .int 0, .ref x18, .ref x19, .int 0, .int 0, .int 0, .int 0])), (x1, .inr (11, [.ref x2, .int 0, .ref x3, .int 0, .ref x4, .ref x5, .int 1, .ref x6, .ref x7, .int 0]))] H := hP
  have hD : va_D A [(x17, .inl (ty 0, 20, .inl (fun _ => 0))), (x19, .inl (ty 0, 384, .inl (fun _ => 0))), (x10, .inr (6, [.ref x11])), (x11, .inl (ty 1, 6, .inr (.inl (fun _ => 0)))), (x12, .inr (6, [.ref x13])), (x13, .inl (ty 1, 6, .inr (.inl (fun _ => 0)))), (x8, .inr (8, [.ref x1, .ref x9, .ref x10, .ref x12, .ref x14, .int 0, .ref x15, .ref x16, .ref x17, .int 0, .ref x18, .ref x19, .int 0, .int 0, .int 0, .int 0])), (x1, .inr (11, [.ref x2, .int 0, .ref x3, .int 0, .ref x4, .ref x5, .int 1, .ref x6, .ref x7, .int 0]))] := hD
  refine W.widen (k := 0) (n := 0) (Nat.le_of_ble_eq_true rfl) (Nat.le_of_ble_eq_true rfl) ?_
  refine lv_aload_n hx hb dX3_refresh_26 rfl (lv_at hl 0 rfl) ?_
  refine lv_iconst (v := 0) hx hb dX3_refresh_27 (by decide) ?_
  refine va_put (D := D) (ci := 8) (v := .int 0) (ty := tyX3 14) (C := RX3) (T := TX3) (N := 16) hx hb hts iv_k_X3_refresh_X3 tyX3 tyX3_ok nmX3 hown hK hP hD hS 6 rfl rfl 14 (by decide) (hts (.fieldLink RX3 61 "AnswerFold$Grounding" "purpose" "I") (by decide +kernel)) (fun _ h9 => h9) rfl (by decide +kernel) rfl rfl (Nat.le_of_ble_eq_true rfl) dX3_refresh_28 (fun H locs hP hD hS => ?_)
  have hP : va_P D vwCl [(x17, .inl (ty 0, 20, .inl (fun _ => 0))), (x19, .inl (ty 0, 384, .inl (fun _ => 0))), (x10, .inr (6, [.ref x11])), (x11, .inl (ty 1, 6, .inr (.inl (fun _ => 0)))), (x12, .inr (6, [.ref x13])), (x13, .inl (ty 1, 6, .inr (.inl (fun _ => 0)))), (x8, .inr (8, [.ref x1, .ref x9, .ref x10, .ref x12, .ref x14, .int 0, .ref x15, .ref x16, .ref x17, .int 0, .ref x18, .ref x19, .int 0, .int 0, .int 0, .int 0])), (x1, .inr (11, [.ref x2, .int 0, .ref x3, .int 0, .ref x4, .ref x5, .int 1, .ref x6, .ref x7, .int 0]))] H := hP
  have hD : va_D A [(x17, .inl (ty 0, 20, .inl (fun _ => 0))), (x19, .inl (ty 0, 384, .inl (fun _ => 0))), (x10, .inr (6, [.ref x11])), (x11, .inl (ty 1, 6, .inr (.inl (fun _ => 0)))), (x12, .inr (6, [.ref x13])), (x13, .inl (ty 1, 6, .inr (.inl (fun _ => 0)))), (x8, .inr (8, [.ref x1, .ref x9, .ref x10, .ref x12, .ref x14, .int 0, .ref x15, .ref x16, .ref x17, .int 0, .ref x18, .ref x19, .int 0, .int 0, .int 0, .int 0])), (x1, .inr (11, [.ref x2, .int 0, .ref x3, .int 0, .ref x4, .ref x5, .int 1, .ref x6, .ref x7, .int 0]))] := hD
  refine lv_aload_n hx hb dX3_refresh_31 rfl (lv_at hl 0 rfl) ?_
  refine wq_v (wc := [(x8, .inr (8, [.ref x1, .ref x9, .ref x10, .ref x12, .ref x14, .int 0, .ref x15, .ref x16, .ref x17, .int 0, .ref x18, .ref x19, .int 0, .int 0, .int 0, .int 0])), (x1, .inr (11, [.ref x2, .int 0, .ref x3, .int 0, .ref x4, .ref x5, .int 1, .ref x6, .ref x7, .int 0]))]) (wr := [(x17, .inl (ty 0, 20, .inl (fun _ => 0))), (x19, .inl (ty 0, 384, .inl (fun _ => 0))), (x10, .inr (6, [.ref x11])), (x11, .inl (ty 1, 6, .inr (.inl (fun _ => 0)))), (x12, .inr (6, [.ref x13])), (x13, .inl (ty 1, 6, .inr (.inl (fun _ => 0))))]) (va_runV (As := []) (rest := []) ⟨hx, hb, hml, hown, hts⟩ (k_X3_spread_0 l D ty td mi H.size x8 x1 x9 x10 x12 x14 x15 x16 x17 x18 x19 x2 x3 x4 x5 x6 x7) (cwV 0 hts gv_k_X3_refresh_3 rfl rfl rfl (by decide +kernel) ⟨(Nat.le_of_ble_eq_true rfl), (Nat.le_of_ble_eq_true rfl)⟩) (wq_preV hP hD hK hE hS hA [6, 7] rfl (by decide) 6 8 rfl rfl) rfl rfl hl.1 rfl (lv_room (Nat.le_of_ble_eq_true rfl)) dX3_refresh_32 ⟨(Nat.le_of_ble_eq_true rfl), (Nat.le_of_ble_eq_true rfl)⟩) hS hA hP hD [6, 7] [0, 1, 2, 3, 4, 5] rfl rfl (by decide) (by decide) (fun u H locs hw hP hD hS => ?_)
  obtain rfl := hw
  have hP : va_P D vwCl [(x17, .inl (ty 0, 20, .inl (fun _ => 0))), (x19, .inl (ty 0, 384, .inl (fun _ => 0))), (x10, .inr (6, [.ref x11])), (x11, .inl (ty 1, 6, .inr (.inl (fun _ => 0)))), (x12, .inr (6, [.ref x13])), (x13, .inl (ty 1, 6, .inr (.inl (fun _ => 0)))), (x8, .inr (8, [.ref x1, .ref x9, .ref x10, .ref x12, .ref x14, .int 0, .ref x15, .ref x16, .ref x17, .int 0, .ref x18, .ref x19, .int 0, .int 0, .int 0, .int 0])), (x1, .inr (11, [.ref x2, .int 0, .ref x3, .int 0, .ref x4, .ref x5, .int 1, .ref x6, .ref x7, .int 0]))] H := hP
  have hD : va_D A [(x17, .inl (ty 0, 20, .inl (fun _ => 0))), (x19, .inl (ty 0, 384, .inl (fun _ => 0))), (x10, .inr (6, [.ref x11])), (x11, .inl (ty 1, 6, .inr (.inl (fun _ => 0)))), (x12, .inr (6, [.ref x13])), (x13, .inl (ty 1, 6, .inr (.inl (fun _ => 0)))), (x8, .inr (8, [.ref x1, .ref x9, .ref x10, .ref x12, .ref x14, .int 0, .ref x15, .ref x16, .ref x17, .int 0, .ref x18, .ref x19, .int 0, .int 0, .int 0, .int 0])), (x1, .inr (11, [.ref x2, .int 0, .ref x3, .int 0, .ref x4, .ref x5, .int 1, .ref x6, .ref x7, .int 0]))] := hD
  refine W.widen (k := 0) (n := 0) (Nat.le_of_ble_eq_true rfl) (Nat.le_of_ble_eq_true rfl) ?_
  refine lv_aload_n hx hb dX3_refresh_35 rfl (lv_at hl 0 rfl) ?_
  refine lv_iconst (v := 1) hx hb dX3_refresh_36 (by decide) ?_
  refine va_put (D := D) (ci := 8) (v := .int 1) (ty := tyX3 14) (C := RX3) (T := TX3) (N := 16) hx hb hts iv_k_X3_refresh_X3 tyX3 tyX3_ok nmX3 hown hK hP hD hS 6 rfl rfl 14 (by decide) (hts (.fieldLink RX3 61 "AnswerFold$Grounding" "purpose" "I") (by decide +kernel)) (fun _ h9 => h9) rfl (by decide +kernel) rfl rfl (Nat.le_of_ble_eq_true rfl) dX3_refresh_37 (fun H locs hP hD hS => ?_)
  have hP : va_P D vwCl [(x17, .inl (ty 0, 20, .inl (fun _ => 0))), (x19, .inl (ty 0, 384, .inl (fun _ => 0))), (x10, .inr (6, [.ref x11])), (x11, .inl (ty 1, 6, .inr (.inl (fun _ => 0)))), (x12, .inr (6, [.ref x13])), (x13, .inl (ty 1, 6, .inr (.inl (fun _ => 0)))), (x8, .inr (8, [.ref x1, .ref x9, .ref x10, .ref x12, .ref x14, .int 0, .ref x15, .ref x16, .ref x17, .int 0, .ref x18, .ref x19, .int 0, .int 0, .int 1, .int 0])), (x1, .inr (11, [.ref x2, .int 0, .ref x3, .int 0, .ref x4, .ref x5, .int 1, .ref x6, .ref x7, .int 0]))] H := hP
  have hD : va_D A [(x17, .inl (ty 0, 20, .inl (fun _ => 0))), (x19, .inl (ty 0, 384, .inl (fun _ => 0))), (x10, .inr (6, [.ref x11])), (x11, .inl (ty 1, 6, .inr (.inl (fun _ => 0)))), (x12, .inr (6, [.ref x13])), (x13, .inl (ty 1, 6, .inr (.inl (fun _ => 0)))), (x8, .inr (8, [.ref x1, .ref x9, .ref x10, .ref x12, .ref x14, .int 0, .ref x15, .ref x16, .ref x17, .int 0, .ref x18, .ref x19, .int 0, .int 0, .int 1, .int 0])), (x1, .inr (11, [.ref x2, .int 0, .ref x3, .int 0, .ref x4, .ref x5, .int 1, .ref x6, .ref x7, .int 0]))] := hD
  refine lv_aload_n hx hb dX3_refresh_40 rfl (lv_at hl 0 rfl) ?_
  refine wq_v (wc := [(x8, .inr (8, [.ref x1, .ref x9, .ref x10, .ref x12, .ref x14, .int 0, .ref x15, .ref x16, .ref x17, .int 0, .ref x18, .ref x19, .int 0, .int 0, .int 1, .int 0])), (x1, .inr (11, [.ref x2, .int 0, .ref x3, .int 0, .ref x4, .ref x5, .int 1, .ref x6, .ref x7, .int 0]))]) (wr := [(x17, .inl (ty 0, 20, .inl (fun _ => 0))), (x19, .inl (ty 0, 384, .inl (fun _ => 0))), (x10, .inr (6, [.ref x11])), (x11, .inl (ty 1, 6, .inr (.inl (fun _ => 0)))), (x12, .inr (6, [.ref x13])), (x13, .inl (ty 1, 6, .inr (.inl (fun _ => 0))))]) (va_runV (As := []) (rest := []) ⟨hx, hb, hml, hown, hts⟩ (k_X3_spread_1 l D ty td mi H.size x8 x1 x9 x10 x12 x14 x15 x16 x17 x18 x19 x2 x3 x4 x5 x6 x7) (cwV 0 hts gv_k_X3_refresh_4 rfl rfl rfl (by decide +kernel) ⟨(Nat.le_of_ble_eq_true rfl), (Nat.le_of_ble_eq_true rfl)⟩) (wq_preV hP hD hK hE hS hA [6, 7] rfl (by decide) 6 8 rfl rfl) rfl rfl hl.1 rfl (lv_room (Nat.le_of_ble_eq_true rfl)) dX3_refresh_41 ⟨(Nat.le_of_ble_eq_true rfl), (Nat.le_of_ble_eq_true rfl)⟩) hS hA hP hD [6, 7] [0, 1, 2, 3, 4, 5] rfl rfl (by decide) (by decide) (fun u H locs hw hP hD hS => ?_)
  obtain rfl := hw
  have hP : va_P D vwCl [(x17, .inl (ty 0, 20, .inl (fun _ => 0))), (x19, .inl (ty 0, 384, .inl (fun _ => 0))), (x10, .inr (6, [.ref x11])), (x11, .inl (ty 1, 6, .inr (.inl (fun _ => 0)))), (x12, .inr (6, [.ref x13])), (x13, .inl (ty 1, 6, .inr (.inl (fun _ => 0)))), (x8, .inr (8, [.ref x1, .ref x9, .ref x10, .ref x12, .ref x14, .int 0, .ref x15, .ref x16, .ref x17, .int 0, .ref x18, .ref x19, .int 0, .int 0, .int 1, .int 0])), (x1, .inr (11, [.ref x2, .int 0, .ref x3, .int 0, .ref x4, .ref x5, .int 1, .ref x6, .ref x7, .int 0]))] H := hP
  have hD : va_D A [(x17, .inl (ty 0, 20, .inl (fun _ => 0))), (x19, .inl (ty 0, 384, .inl (fun _ => 0))), (x10, .inr (6, [.ref x11])), (x11, .inl (ty 1, 6, .inr (.inl (fun _ => 0)))), (x12, .inr (6, [.ref x13])), (x13, .inl (ty 1, 6, .inr (.inl (fun _ => 0)))), (x8, .inr (8, [.ref x1, .ref x9, .ref x10, .ref x12, .ref x14, .int 0, .ref x15, .ref x16, .ref x17, .int 0, .ref x18, .ref x19, .int 0, .int 0, .int 1, .int 0])), (x1, .inr (11, [.ref x2, .int 0, .ref x3, .int 0, .ref x4, .ref x5, .int 1, .ref x6, .ref x7, .int 0]))] := hD
  refine W.widen (k := 0) (n := 0) (Nat.le_of_ble_eq_true rfl) (Nat.le_of_ble_eq_true rfl) ?_
  refine lv_aload_n hx hb dX3_refresh_44 rfl (lv_at hl 0 rfl) ?_
  refine lv_iconst (v := 2) hx hb dX3_refresh_45 (by decide) ?_
  refine va_put (D := D) (ci := 8) (v := .int 2) (ty := tyX3 14) (C := RX3) (T := TX3) (N := 16) hx hb hts iv_k_X3_refresh_X3 tyX3 tyX3_ok nmX3 hown hK hP hD hS 6 rfl rfl 14 (by decide) (hts (.fieldLink RX3 61 "AnswerFold$Grounding" "purpose" "I") (by decide +kernel)) (fun _ h9 => h9) rfl (by decide +kernel) rfl rfl (Nat.le_of_ble_eq_true rfl) dX3_refresh_46 (fun H locs hP hD hS => ?_)
  have hP : va_P D vwCl [(x17, .inl (ty 0, 20, .inl (fun _ => 0))), (x19, .inl (ty 0, 384, .inl (fun _ => 0))), (x10, .inr (6, [.ref x11])), (x11, .inl (ty 1, 6, .inr (.inl (fun _ => 0)))), (x12, .inr (6, [.ref x13])), (x13, .inl (ty 1, 6, .inr (.inl (fun _ => 0)))), (x8, .inr (8, [.ref x1, .ref x9, .ref x10, .ref x12, .ref x14, .int 0, .ref x15, .ref x16, .ref x17, .int 0, .ref x18, .ref x19, .int 0, .int 0, .int 2, .int 0])), (x1, .inr (11, [.ref x2, .int 0, .ref x3, .int 0, .ref x4, .ref x5, .int 1, .ref x6, .ref x7, .int 0]))] H := hP
  have hD : va_D A [(x17, .inl (ty 0, 20, .inl (fun _ => 0))), (x19, .inl (ty 0, 384, .inl (fun _ => 0))), (x10, .inr (6, [.ref x11])), (x11, .inl (ty 1, 6, .inr (.inl (fun _ => 0)))), (x12, .inr (6, [.ref x13])), (x13, .inl (ty 1, 6, .inr (.inl (fun _ => 0)))), (x8, .inr (8, [.ref x1, .ref x9, .ref x10, .ref x12, .ref x14, .int 0, .ref x15, .ref x16, .ref x17, .int 0, .ref x18, .ref x19, .int 0, .int 0, .int 2, .int 0])), (x1, .inr (11, [.ref x2, .int 0, .ref x3, .int 0, .ref x4, .ref x5, .int 1, .ref x6, .ref x7, .int 0]))] := hD
  refine lv_aload_n hx hb dX3_refresh_49 rfl (lv_at hl 0 rfl) ?_
  refine wq_v (wc := [(x8, .inr (8, [.ref x1, .ref x9, .ref x10, .ref x12, .ref x14, .int 0, .ref x15, .ref x16, .ref x17, .int 0, .ref x18, .ref x19, .int 0, .int 0, .int 2, .int 0])), (x1, .inr (11, [.ref x2, .int 0, .ref x3, .int 0, .ref x4, .ref x5, .int 1, .ref x6, .ref x7, .int 0])), (x17, .inl (ty 0, 20, .inl (fun _ => 0)))]) (wr := [(x19, .inl (ty 0, 384, .inl (fun _ => 0))), (x10, .inr (6, [.ref x11])), (x11, .inl (ty 1, 6, .inr (.inl (fun _ => 0)))), (x12, .inr (6, [.ref x13])), (x13, .inl (ty 1, 6, .inr (.inl (fun _ => 0))))]) (va_runV (As := []) (rest := []) ⟨hx, hb, hml, hown, hts⟩ (k_X3_keepInstances l D ty td mi H.size x8 x1 x9 x10 x12 x14 x15 x16 x17 x18 x19 x2 x3 x4 x5 x6 x7) (cwV 0 hts gv_k_X3_refresh_5 rfl rfl rfl (by decide +kernel) ⟨(Nat.le_of_ble_eq_true rfl), (Nat.le_of_ble_eq_true rfl)⟩) (wq_preV hP hD hK hE hS hA [6, 7, 0] rfl (by decide) 6 8 rfl rfl) rfl rfl hl.1 rfl (lv_room (Nat.le_of_ble_eq_true rfl)) dX3_refresh_50 ⟨(Nat.le_of_ble_eq_true rfl), (Nat.le_of_ble_eq_true rfl)⟩) hS hA hP hD [6, 7, 0] [1, 2, 3, 4, 5] rfl rfl (by decide) (by decide) (fun u H locs hw hP hD hS => ?_)
  obtain rfl := hw
  have hP : va_P D vwCl [(x19, .inl (ty 0, 384, .inl (fun _ => 0))), (x10, .inr (6, [.ref x11])), (x11, .inl (ty 1, 6, .inr (.inl (fun _ => 0)))), (x12, .inr (6, [.ref x13])), (x13, .inl (ty 1, 6, .inr (.inl (fun _ => 0)))), (x8, .inr (8, [.ref x1, .ref x9, .ref x10, .ref x12, .ref x14, .int 0, .ref x15, .ref x16, .ref x17, .int 0, .ref x18, .ref x19, .int 0, .int 0, .int 2, .int 0])), (x17, .inl (ty 0, 20, .inl (fun _ => 0))), (x1, .inr (11, [.ref x2, .int 0, .ref x3, .int 0, .ref x4, .ref x5, .int 1, .ref x6, .ref x7, .int 0]))] H := hP
  have hD : va_D A [(x19, .inl (ty 0, 384, .inl (fun _ => 0))), (x10, .inr (6, [.ref x11])), (x11, .inl (ty 1, 6, .inr (.inl (fun _ => 0)))), (x12, .inr (6, [.ref x13])), (x13, .inl (ty 1, 6, .inr (.inl (fun _ => 0)))), (x8, .inr (8, [.ref x1, .ref x9, .ref x10, .ref x12, .ref x14, .int 0, .ref x15, .ref x16, .ref x17, .int 0, .ref x18, .ref x19, .int 0, .int 0, .int 2, .int 0])), (x17, .inl (ty 0, 20, .inl (fun _ => 0))), (x1, .inr (11, [.ref x2, .int 0, .ref x3, .int 0, .ref x4, .ref x5, .int 1, .ref x6, .ref x7, .int 0]))] := hD
  refine W.widen (k := 0) (n := 0) (Nat.le_of_ble_eq_true rfl) (Nat.le_of_ble_eq_true rfl) ?_
  refine lv_aload_n hx hb dX3_refresh_53 rfl (lv_at hl 0 rfl) ?_
  refine wq_v (wc := [(x8, .inr (8, [.ref x1, .ref x9, .ref x10, .ref x12, .ref x14, .int 0, .ref x15, .ref x16, .ref x17, .int 0, .ref x18, .ref x19, .int 0, .int 0, .int 2, .int 0])), (x10, .inr (6, [.ref x11])), (x11, .inl (ty 1, 6, .inr (.inl (fun _ => 0)))), (x12, .inr (6, [.ref x13])), (x13, .inl (ty 1, 6, .inr (.inl (fun _ => 0)))), (x19, .inl (ty 0, 384, .inl (fun _ => 0)))]) (wr := [(x17, .inl (ty 0, 20, .inl (fun _ => 0))), (x1, .inr (11, [.ref x2, .int 0, .ref x3, .int 0, .ref x4, .ref x5, .int 1, .ref x6, .ref x7, .int 0]))]) (va_runV (As := []) (rest := []) ⟨hx, hb, hml, hown, hts⟩ (k_X3_numberOpenAtoms l D ty td mi H.size x8 x1 x9 x10 x12 x14 x15 x16 x17 x18 x19 x11 x13) (cwV 0 hts gv_k_X3_refresh_6 rfl rfl rfl (by decide +kernel) ⟨(Nat.le_of_ble_eq_true rfl), (Nat.le_of_ble_eq_true rfl)⟩) (wq_preV hP hD hK hE hS hA [5, 1, 2, 3, 4, 0] rfl (by decide) 5 8 rfl rfl) rfl rfl hl.1 rfl (lv_room (Nat.le_of_ble_eq_true rfl)) dX3_refresh_54 ⟨(Nat.le_of_ble_eq_true rfl), (Nat.le_of_ble_eq_true rfl)⟩) hS hA hP hD [5, 1, 2, 3, 4, 0] [6, 7] rfl rfl (by decide) (by decide) (fun u H locs hw hP hD hS => ?_)
  obtain rfl := hw
  have hP : va_P D vwCl [(x17, .inl (ty 0, 20, .inl (fun _ => 0))), (x1, .inr (11, [.ref x2, .int 0, .ref x3, .int 0, .ref x4, .ref x5, .int 1, .ref x6, .ref x7, .int 0])), (x8, .inr (8, [.ref x1, .ref x9, .ref x10, .ref x12, .ref x14, .int 0, .ref x15, .ref x16, .ref x17, .int 0, .ref x18, .ref x19, .int 0, .int 0, .int 2, .int 0])), (x10, .inr (6, [.ref x11])), (x11, .inl (ty 1, 6, .inr (.inl (fun _ => 0)))), (x12, .inr (6, [.ref x13])), (x13, .inl (ty 1, 6, .inr (.inl (fun _ => 0)))), (x19, .inl (ty 0, 384, .inl (fun j => if j < 384 then (-1) else 0)))] H := hP
  have hD : va_D A [(x17, .inl (ty 0, 20, .inl (fun _ => 0))), (x1, .inr (11, [.ref x2, .int 0, .ref x3, .int 0, .ref x4, .ref x5, .int 1, .ref x6, .ref x7, .int 0])), (x8, .inr (8, [.ref x1, .ref x9, .ref x10, .ref x12, .ref x14, .int 0, .ref x15, .ref x16, .ref x17, .int 0, .ref x18, .ref x19, .int 0, .int 0, .int 2, .int 0])), (x10, .inr (6, [.ref x11])), (x11, .inl (ty 1, 6, .inr (.inl (fun _ => 0)))), (x12, .inr (6, [.ref x13])), (x13, .inl (ty 1, 6, .inr (.inl (fun _ => 0)))), (x19, .inl (ty 0, 384, .inl (fun j => if j < 384 then (-1) else 0)))] := hD
  refine W.widen (k := 0) (n := 0) (Nat.le_of_ble_eq_true rfl) (Nat.le_of_ble_eq_true rfl) ?_
  refine lv_aload_n hx hb dX3_refresh_57 rfl (lv_at hl 0 rfl) ?_
  refine lv_iconst (v := 1) hx hb dX3_refresh_58 (by decide) ?_
  refine va_put (D := D) (ci := 8) (v := .int 1) (ty := tyX3 13) (C := RX3) (T := TX3) (N := 16) hx hb hts iv_k_X3_refresh_X3 tyX3 tyX3_ok nmX3 hown hK hP hD hS 2 rfl rfl 13 (by decide) (hts (.fieldLink RX3 51 "AnswerFold$Grounding" "isCurrent" "Z") (by decide +kernel)) (fun _ h9 => h9) rfl (by decide +kernel) rfl rfl (Nat.le_of_ble_eq_true rfl) dX3_refresh_59 (fun H locs hP hD hS => ?_)
  have hP : va_P D vwCl [(x17, .inl (ty 0, 20, .inl (fun _ => 0))), (x1, .inr (11, [.ref x2, .int 0, .ref x3, .int 0, .ref x4, .ref x5, .int 1, .ref x6, .ref x7, .int 0])), (x8, .inr (8, [.ref x1, .ref x9, .ref x10, .ref x12, .ref x14, .int 0, .ref x15, .ref x16, .ref x17, .int 0, .ref x18, .ref x19, .int 0, .int 1, .int 2, .int 0])), (x10, .inr (6, [.ref x11])), (x11, .inl (ty 1, 6, .inr (.inl (fun _ => 0)))), (x12, .inr (6, [.ref x13])), (x13, .inl (ty 1, 6, .inr (.inl (fun _ => 0)))), (x19, .inl (ty 0, 384, .inl (fun j => if j < 384 then (-1) else 0)))] H := hP
  have hD : va_D A [(x17, .inl (ty 0, 20, .inl (fun _ => 0))), (x1, .inr (11, [.ref x2, .int 0, .ref x3, .int 0, .ref x4, .ref x5, .int 1, .ref x6, .ref x7, .int 0])), (x8, .inr (8, [.ref x1, .ref x9, .ref x10, .ref x12, .ref x14, .int 0, .ref x15, .ref x16, .ref x17, .int 0, .ref x18, .ref x19, .int 0, .int 1, .int 2, .int 0])), (x10, .inr (6, [.ref x11])), (x11, .inl (ty 1, 6, .inr (.inl (fun _ => 0)))), (x12, .inr (6, [.ref x13])), (x13, .inl (ty 1, 6, .inr (.inl (fun _ => 0)))), (x19, .inl (ty 0, 384, .inl (fun j => if j < 384 then (-1) else 0)))] := hD
  have hP9 := hP.sub (ws' := [(x17, .inl (ty 0, 20, .inl (fun _ => 0))), (x1, .inr (11, [.ref x2, .int 0, .ref x3, .int 0, .ref x4, .ref x5, .int 1, .ref x6, .ref x7, .int 0])), (x8, .inr (8, [.ref x1, .ref x9, .ref x10, .ref x12, .ref x14, .int 0, .ref x15, .ref x16, .ref x17, .int 0, .ref x18, .ref x19, .int 0, .int 1, .int 2, .int 0])), (x10, .inr (6, [.ref x11])), (x11, .inl (ty 1, 6, .inr (.inl (fun _ => 0)))), (x12, .inr (6, [.ref x13])), (x13, .inl (ty 1, 6, .inr (.inl (fun _ => 0)))), (x19, .inl (ty 0, 384, .inl (fun j => if j < 384 then (-1) else 0)))]) [0, 1, 2, 3, 4, 5, 6, 7] rfl
  have hD9 := hD.sub (ws' := [(x17, .inl (ty 0, 20, .inl (fun _ => 0))), (x1, .inr (11, [.ref x2, .int 0, .ref x3, .int 0, .ref x4, .ref x5, .int 1, .ref x6, .ref x7, .int 0])), (x8, .inr (8, [.ref x1, .ref x9, .ref x10, .ref x12, .ref x14, .int 0, .ref x15, .ref x16, .ref x17, .int 0, .ref x18, .ref x19, .int 0, .int 1, .int 2, .int 0])), (x10, .inr (6, [.ref x11])), (x11, .inl (ty 1, 6, .inr (.inl (fun _ => 0)))), (x12, .inr (6, [.ref x13])), (x13, .inl (ty 1, 6, .inr (.inl (fun _ => 0)))), (x19, .inl (ty 0, 384, .inl (fun j => if j < 384 then (-1) else 0)))]) [0, 1, 2, 3, 4, 5, 6, 7] (by decide) rfl
  refine W.widen (k := 0) (n := 0) (Nat.le_of_ble_eq_true rfl) (Nat.le_of_ble_eq_true rfl) ?_
  exact W.vret hx hb hr (fun t ht hW => ⟨⟨[(x17, .inl (ty 0, 20, .inl (fun _ => 0))), (x1, .inr (11, [.ref x2, .int 0, .ref x3, .int 0, .ref x4, .ref x5, .int 1, .ref x6, .ref x7, .int 0])), (x8, .inr (8, [.ref x1, .ref x9, .ref x10, .ref x12, .ref x14, .int 0, .ref x15, .ref x16, .ref x17, .int 0, .ref x18, .ref x19, .int 0, .int 1, .int 2, .int 0])), (x10, .inr (6, [.ref x11])), (x11, .inl (ty 1, 6, .inr (.inl (fun _ => 0)))), (x12, .inr (6, [.ref x13])), (x13, .inl (ty 1, 6, .inr (.inl (fun _ => 0)))), (x19, .inl (ty 0, 384, .inl (fun j => if j < 384 then (-1) else 0)))], rfl, rfl, wq_B.of ht hP9 hD9⟩, hS.F ht⟩) hS.2.2 dX3_refresh_62
def vs_k_X10_open : List Cond := .code yX10_open cX10_open 1 (some .int) :: ([.fieldLink RX10 21 "AnswerFold" "grounding" "LAnswerFold$Grounding;", .methodLink RX10 251 yX3_refresh, .instanceMethod yX3_refresh, .selects RX3 yX3_refresh yX3_refresh, .initialized RX3] ++ (u_ws RX10 TX10 7 ++ (vs_k_X3_refresh ++ (u_ws RX3 TX3 16))))
theorem iv_k_X10_open_X10 : ∀ w ∈ u_ws RX10 TX10 7, w ∈ vs_k_X10_open := (fun _ h => List.mem_cons_of_mem _ (List.mem_append_right _ (List.mem_append_left _ h)))
theorem iv_k_X10_open_X3 : ∀ w ∈ u_ws RX3 TX3 16, w ∈ vs_k_X10_open := (fun _ h => List.mem_cons_of_mem _ (List.mem_append_right _ (List.mem_append_right _ (List.mem_append_right _ (h)))))
set_option maxRecDepth 20000 in
theorem gv_k_X10_open_0 : GoodIn vs_k_X10_open (wsV RX10 251 RX3 yX3_refresh vs_k_X3_refresh) := goodIn_app (goodIn_sub (by decide +kernel) (by decide +kernel)) (goodIn_sub (fun _ h => List.mem_cons_of_mem _ (List.mem_append_right _ (List.mem_append_right _ (List.mem_append_left _ h)))) (by decide +kernel))
set_option maxHeartbeats 4000000 in
set_option maxRecDepth 100000 in
theorem k_X10_open (l : Launch) (D : va_G) (ty : Nat → ClassId) (td mi sz : Nat) (x0 : Nat) (x1 : Nat) (x8 : Nat) (x20 : Nat) (x39 : Nat) (x41 : Nat) (x43 : Nat) (x45 : Nat) (x9 : Nat) (x10 : Nat) (x12 : Nat) (x14 : Nat) (x15 : Nat) (x16 : Nat) (x17 : Nat) (x18 : Nat) (x19 : Nat) (x2 : Nat) (x3 : Nat) (x4 : Nat) (x5 : Nat) (x6 : Nat) (x7 : Nat) (x11 : Nat) (x13 : Nat) : Met l yX10_open vs_k_X10_open { frames := 3, cells := 0, slots := 0, locals := 69 } (va_Pc [.ref x0] (wq_P D ty td mi [(x0, .inr (15, [.ref x1, .ref x8, .ref x20, .ref x39, .ref x41, .ref x43, .ref x45])), (x8, .inr (8, [.ref x1, .ref x9, .ref x10, .ref x12, .ref x14, .int 0, .ref x15, .ref x16, .ref x17, .int 0, .ref x18, .ref x19, .int 0, .int 0, .int 0, .int 0])), (x1, .inr (11, [.ref x2, .int 0, .ref x3, .int 0, .ref x4, .ref x5, .int 1, .ref x6, .ref x7, .int 0])), (x10, .inr (6, [.ref x11])), (x11, .inl (ty 1, 6, .inr (.inl (fun _ => 0)))), (x12, .inr (6, [.ref x13])), (x13, .inl (ty 1, 6, .inr (.inl (fun _ => 0)))), (x17, .inl (ty 0, 20, .inl (fun _ => 0))), (x19, .inl (ty 0, 384, .inl (fun _ => 0)))] sz)) (va_Qi (fun (r : Int32) (u : va_W) => (r = 0 ∧ (u = []))) (wq_B D (va_A [(x0, .inr (15, [.ref x1, .ref x8, .ref x20, .ref x39, .ref x41, .ref x43, .ref x45])), (x8, .inr (8, [.ref x1, .ref x9, .ref x10, .ref x12, .ref x14, .int 0, .ref x15, .ref x16, .ref x17, .int 0, .ref x18, .ref x19, .int 0, .int 0, .int 0, .int 0])), (x1, .inr (11, [.ref x2, .int 0, .ref x3, .int 0, .ref x4, .ref x5, .int 1, .ref x6, .ref x7, .int 0])), (x10, .inr (6, [.ref x11])), (x11, .inl (ty 1, 6, .inr (.inl (fun _ => 0)))), (x12, .inr (6, [.ref x13])), (x13, .inl (ty 1, 6, .inr (.inl (fun _ => 0)))), (x17, .inl (ty 0, 20, .inl (fun _ => 0))), (x19, .inl (ty 0, 384, .inl (fun _ => 0)))] sz)) (va_A [(x0, .inr (15, [.ref x1, .ref x8, .ref x20, .ref x39, .ref x41, .ref x43, .ref x45])), (x8, .inr (8, [.ref x1, .ref x9, .ref x10, .ref x12, .ref x14, .int 0, .ref x15, .ref x16, .ref x17, .int 0, .ref x18, .ref x19, .int 0, .int 0, .int 0, .int 0])), (x1, .inr (11, [.ref x2, .int 0, .ref x3, .int 0, .ref x4, .ref x5, .int 1, .ref x6, .ref x7, .int 0])), (x10, .inr (6, [.ref x11])), (x11, .inl (ty 1, 6, .inr (.inl (fun _ => 0)))), (x12, .inr (6, [.ref x13])), (x13, .inl (ty 1, 6, .inr (.inl (fun _ => 0)))), (x17, .inl (ty 0, 20, .inl (fun _ => 0))), (x19, .inl (ty 0, 384, .inl (fun _ => 0)))] sz)) 0 0 (va_A [(x0, .inr (15, [.ref x1, .ref x8, .ref x20, .ref x39, .ref x41, .ref x43, .ref x45])), (x8, .inr (8, [.ref x1, .ref x9, .ref x10, .ref x12, .ref x14, .int 0, .ref x15, .ref x16, .ref x17, .int 0, .ref x18, .ref x19, .int 0, .int 0, .int 0, .int 0])), (x1, .inr (11, [.ref x2, .int 0, .ref x3, .int 0, .ref x4, .ref x5, .int 1, .ref x6, .ref x7, .int 0])), (x10, .inr (6, [.ref x11])), (x11, .inl (ty 1, 6, .inr (.inl (fun _ => 0)))), (x12, .inr (6, [.ref x13])), (x13, .inl (ty 1, 6, .inr (.inl (fun _ => 0)))), (x17, .inl (ty 0, 20, .inl (fun _ => 0))), (x19, .inl (ty 0, 384, .inl (fun _ => 0)))] sz) := by
  refine Met.ofW (cc := cX10_open) (maxL := 1) (ret := (some .int)) (by decide) rfl ?_
  intro p e s m args below meth c s₁ B hml hv
  obtain ⟨rfl, hsz, hP, hK, hD0, hE⟩ := hv
  have hx := B.exec
  have hb := B.bytes
  have hr := B.returns
  have hts := atoms_spec (ws := vs_k_X10_open) B.pre
  have hown : s.vm.findClass RX10 = some m.cls := findClass_of_methodNamed B.named
  have hlocks := B.notSynchronized
  subst hsz
  have hD := hD0.self (sz := s.heap.size)
  generalize hAe : va_A [(x0, .inr (15, [.ref x1, .ref x8, .ref x20, .ref x39, .ref x41, .ref x43, .ref x45])), (x8, .inr (8, [.ref x1, .ref x9, .ref x10, .ref x12, .ref x14, .int 0, .ref x15, .ref x16, .ref x17, .int 0, .ref x18, .ref x19, .int 0, .int 0, .int 0, .int 0])), (x1, .inr (11, [.ref x2, .int 0, .ref x3, .int 0, .ref x4, .ref x5, .int 1, .ref x6, .ref x7, .int 0])), (x10, .inr (6, [.ref x11])), (x11, .inl (ty 1, 6, .inr (.inl (fun _ => 0)))), (x12, .inr (6, [.ref x13])), (x13, .inl (ty 1, 6, .inr (.inl (fun _ => 0)))), (x17, .inl (ty 0, 20, .inl (fun _ => 0))), (x19, .inl (ty 0, 384, .inl (fun _ => 0)))] s.heap.size = A at hD hE ⊢
  have hA : ∀ q : Nat, s.heap.size ≤ q → A q := fun q h => by rw [← hAe]; exact Or.inr h
  have hS : va_S A s.heap s.heap [] := va_S.rf
  have hP : va_P D vwCl [(x0, .inr (15, [.ref x1, .ref x8, .ref x20, .ref x39, .ref x41, .ref x43, .ref x45])), (x8, .inr (8, [.ref x1, .ref x9, .ref x10, .ref x12, .ref x14, .int 0, .ref x15, .ref x16, .ref x17, .int 0, .ref x18, .ref x19, .int 0, .int 0, .int 0, .int 0])), (x1, .inr (11, [.ref x2, .int 0, .ref x3, .int 0, .ref x4, .ref x5, .int 1, .ref x6, .ref x7, .int 0])), (x10, .inr (6, [.ref x11])), (x11, .inl (ty 1, 6, .inr (.inl (fun _ => 0)))), (x12, .inr (6, [.ref x13])), (x13, .inl (ty 1, 6, .inr (.inl (fun _ => 0)))), (x17, .inl (ty 0, 20, .inl (fun _ => 0))), (x19, .inl (ty 0, 384, .inl (fun _ => 0)))] s.heap := hP
  have hl := lv_entry ([.ref x0]) (n := 1) (Nat.le_of_ble_eq_true rfl)
  rw [lg_entry_eq]
  generalize (lg_sl ([.ref x0]) ++ List.replicate (1 - (lg_sl ([.ref x0])).length) Slot.unset).toArray = ls at hl ⊢
  have hl : lv_has ls 1 [(0, .ref x0)] := hl
  refine lv_aload_n hx hb dX10_open_0 rfl (lv_at hl 0 rfl) ?_
  refine va_get (D := D) (ci := 15) (v := .ref x8) (C := RX10) (T := TX10) (N := 7) hx hb hts iv_k_X10_open_X10 hown hK hP 0 rfl rfl 1 (by decide) (hts (.fieldLink RX10 21 "AnswerFold" "grounding" "LAnswerFold$Grounding;") (by decide +kernel)) (fun _ h9 => h9) rfl dX10_open_1 ?_
  refine wq_v (wc := [(x8, .inr (8, [.ref x1, .ref x9, .ref x10, .ref x12, .ref x14, .int 0, .ref x15, .ref x16, .ref x17, .int 0, .ref x18, .ref x19, .int 0, .int 0, .int 0, .int 0])), (x1, .inr (11, [.ref x2, .int 0, .ref x3, .int 0, .ref x4, .ref x5, .int 1, .ref x6, .ref x7, .int 0])), (x10, .inr (6, [.ref x11])), (x11, .inl (ty 1, 6, .inr (.inl (fun _ => 0)))), (x12, .inr (6, [.ref x13])), (x13, .inl (ty 1, 6, .inr (.inl (fun _ => 0)))), (x17, .inl (ty 0, 20, .inl (fun _ => 0))), (x19, .inl (ty 0, 384, .inl (fun _ => 0)))]) (wr := [(x0, .inr (15, [.ref x1, .ref x8, .ref x20, .ref x39, .ref x41, .ref x43, .ref x45]))]) (va_runV (As := []) (rest := []) ⟨hx, hb, hml, hown, hts⟩ (k_X3_refresh l D ty td mi s.heap.size x8 x1 x9 x10 x12 x14 x15 x16 x17 x18 x19 x2 x3 x4 x5 x6 x7 x11 x13) (cwV 0 hts gv_k_X10_open_0 rfl rfl rfl (by decide +kernel) ⟨(Nat.le_of_ble_eq_true rfl), (Nat.le_of_ble_eq_true rfl)⟩) (wq_preV hP hD hK hE hS hA [1, 2, 3, 4, 5, 6, 7, 8] rfl (by decide) 1 8 rfl rfl) rfl rfl hl.1 rfl (lv_room (Nat.le_of_ble_eq_true rfl)) dX10_open_4 ⟨(Nat.le_of_ble_eq_true rfl), (Nat.le_of_ble_eq_true rfl)⟩) hS hA hP hD [1, 2, 3, 4, 5, 6, 7, 8] [0] rfl rfl (by decide) (by decide) (fun u H locs hw hP hD hS => ?_)
  obtain rfl := hw
  have hP : va_P D vwCl [(x0, .inr (15, [.ref x1, .ref x8, .ref x20, .ref x39, .ref x41, .ref x43, .ref x45])), (x17, .inl (ty 0, 20, .inl (fun _ => 0))), (x1, .inr (11, [.ref x2, .int 0, .ref x3, .int 0, .ref x4, .ref x5, .int 1, .ref x6, .ref x7, .int 0])), (x8, .inr (8, [.ref x1, .ref x9, .ref x10, .ref x12, .ref x14, .int 0, .ref x15, .ref x16, .ref x17, .int 0, .ref x18, .ref x19, .int 0, .int 1, .int 2, .int 0])), (x10, .inr (6, [.ref x11])), (x11, .inl (ty 1, 6, .inr (.inl (fun _ => 0)))), (x12, .inr (6, [.ref x13])), (x13, .inl (ty 1, 6, .inr (.inl (fun _ => 0)))), (x19, .inl (ty 0, 384, .inl (fun j => if j < 384 then (-1) else 0)))] H := hP
  have hD : va_D A [(x0, .inr (15, [.ref x1, .ref x8, .ref x20, .ref x39, .ref x41, .ref x43, .ref x45])), (x17, .inl (ty 0, 20, .inl (fun _ => 0))), (x1, .inr (11, [.ref x2, .int 0, .ref x3, .int 0, .ref x4, .ref x5, .int 1, .ref x6, .ref x7, .int 0])), (x8, .inr (8, [.ref x1, .ref x9, .ref x10, .ref x12, .ref x14, .int 0, .ref x15, .ref x16, .ref x17, .int 0, .ref x18, .ref x19, .int 0, .int 1, .int 2, .int 0])), (x10, .inr (6, [.ref x11])), (x11, .inl (ty 1, 6, .inr (.inl (fun _ => 0)))), (x12, .inr (6, [.ref x13])), (x13, .inl (ty 1, 6, .inr (.inl (fun _ => 0)))), (x19, .inl (ty 0, 384, .inl (fun j => if j < 384 then (-1) else 0)))] := hD
  refine W.widen (k := 0) (n := 0) (Nat.le_of_ble_eq_true rfl) (Nat.le_of_ble_eq_true rfl) ?_
  refine lv_aload_n hx hb dX10_open_7 rfl (lv_at hl 0 rfl) ?_
  refine va_get (D := D) (ci := 15) (v := .ref x8) (C := RX10) (T := TX10) (N := 7) hx hb hts iv_k_X10_open_X10 hown hK hP 0 rfl rfl 1 (by decide) (hts (.fieldLink RX10 21 "AnswerFold" "grounding" "LAnswerFold$Grounding;") (by decide +kernel)) (fun _ h9 => h9) rfl dX10_open_8 ?_
  refine va_getN (D := D) (ci := 8) (v := .int 0) (C := RX3) (T := TX3) (N := 16) hx hb hts iv_k_X10_open_X3 hown hK hP 3 rfl rfl 12 (by decide) (hE.at (.fieldLinkNest "AnswerFold" 263 "AnswerFold$Grounding" "openCount" "I" "AnswerFold") (by decide +kernel)) (fun _ h9 => h9) rfl dX10_open_11 ?_
  have hP9 := hP.sub (ws' := []) [] rfl
  have hD9 := hD.sub (ws' := []) [] (by decide) rfl
  refine W.widen (k := 0) (n := 0) (Nat.le_of_ble_eq_true rfl) (Nat.le_of_ble_eq_true rfl) ?_
  exact W.iret (v := 0) hx hb hr (fun t ht hW => ⟨⟨0, [], rfl, ⟨rfl, rfl⟩, wq_B.of ht hP9 hD9⟩, hS.F ht⟩) hS.2.2 dX10_open_14
