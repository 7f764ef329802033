theorem dX16_thrown_0 : decode cX16_thrown 0 = .ok (.aload_n 0, 1) := by decide +kernel
theorem dX16_thrown_1 : decode cX16_thrown 1 = .ok (.getfield 65, 3) := by decide +kernel
theorem dX16_thrown_4 : decode cX16_thrown 4 = .ok (.ireturn, 1) := by decide +kernel
theorem dX16_in_0 : decode cX16_in 0 = .ok (.iload_n 0, 1) := by decide +kernel
theorem dX16_in_1 : decode cX16_in 1 = .ok (.iload_n 1, 1) := by decide +kernel
theorem dX16_in_2 : decode cX16_in 2 = .ok (.if_icmp .lt 12, 3) := by decide +kernel
theorem dX16_in_5 : decode cX16_in 5 = .ok (.iload_n 0, 1) := by decide +kernel
theorem dX16_in_6 : decode cX16_in 6 = .ok (.iload_n 2, 1) := by decide +kernel
theorem dX16_in_7 : decode cX16_in 7 = .ok (.if_icmp .gt 7, 3) := by decide +kernel
theorem dX16_in_10 : decode cX16_in 10 = .ok (.iconst 1, 1) := by decide +kernel
theorem dX16_in_11 : decode cX16_in 11 = .ok (.goto 4, 3) := by decide +kernel
theorem dX16_in_14 : decode cX16_in 14 = .ok (.iconst 0, 1) := by decide +kernel
theorem dX16_in_15 : decode cX16_in 15 = .ok (.ireturn, 1) := by decide +kernel
theorem dX16_fails_0 : decode cX16_fails 0 = .ok (.iload_n 1, 1) := by decide +kernel
theorem dX16_fails_1 : decode cX16_fails 1 = .ok (.ifCond .eq 15, 3) := by decide +kernel
theorem dX16_fails_4 : decode cX16_fails 4 = .ok (.aload_n 0, 1) := by decide +kernel
theorem dX16_fails_5 : decode cX16_fails 5 = .ok (.getfield 65, 3) := by decide +kernel
theorem dX16_fails_8 : decode cX16_fails 8 = .ok (.ifCond .ne 8, 3) := by decide +kernel
theorem dX16_fails_11 : decode cX16_fails 11 = .ok (.aload_n 0, 1) := by decide +kernel
theorem dX16_fails_12 : decode cX16_fails 12 = .ok (.iload_n 2, 1) := by decide +kernel
theorem dX16_fails_13 : decode cX16_fails 13 = .ok (.putfield 65, 3) := by decide +kernel
theorem dX16_fails_16 : decode cX16_fails 16 = .ok (.aload_n 0, 1) := by decide +kernel
theorem dX16_fails_17 : decode cX16_fails 17 = .ok (.getfield 65, 3) := by decide +kernel
theorem dX16_fails_20 : decode cX16_fails 20 = .ok (.ifCond .eq 7, 3) := by decide +kernel
theorem dX16_fails_23 : decode cX16_fails 23 = .ok (.iconst 1, 1) := by decide +kernel
theorem dX16_fails_24 : decode cX16_fails 24 = .ok (.goto 4, 3) := by decide +kernel
theorem dX16_fails_27 : decode cX16_fails 27 = .ok (.iconst 0, 1) := by decide +kernel
theorem dX16_fails_28 : decode cX16_fails 28 = .ok (.ireturn, 1) := by decide +kernel
theorem dX16_noPredicate_0 : decode cX16_noPredicate 0 = .ok (.iload_n 1, 1) := by decide +kernel
theorem dX16_noPredicate_1 : decode cX16_noPredicate 1 = .ok (.iconst 0, 1) := by decide +kernel
theorem dX16_noPredicate_2 : decode cX16_noPredicate 2 = .ok (.aload_n 0, 1) := by decide +kernel
theorem dX16_noPredicate_3 : decode cX16_noPredicate 3 = .ok (.getfield 69, 3) := by decide +kernel
theorem dX16_noPredicate_6 : decode cX16_noPredicate 6 = .ok (.iconst 1, 1) := by decide +kernel
theorem dX16_noPredicate_7 : decode cX16_noPredicate 7 = .ok (.isub, 1) := by decide +kernel
theorem dX16_noPredicate_8 : decode cX16_noPredicate 8 = .ok (.invokestatic 72, 3) := by decide +kernel
theorem dX16_noPredicate_11 : decode cX16_noPredicate 11 = .ok (.ifCond .ne 7, 3) := by decide +kernel
theorem dX16_noPredicate_14 : decode cX16_noPredicate 14 = .ok (.iconst 1, 1) := by decide +kernel
theorem dX16_noPredicate_15 : decode cX16_noPredicate 15 = .ok (.goto 4, 3) := by decide +kernel
theorem dX16_noPredicate_18 : decode cX16_noPredicate 18 = .ok (.iconst 0, 1) := by decide +kernel
theorem dX16_noPredicate_19 : decode cX16_noPredicate 19 = .ok (.ireturn, 1) := by decide +kernel
theorem dX16_noRule_0 : decode cX16_noRule 0 = .ok (.iload_n 1, 1) := by decide +kernel
theorem dX16_noRule_1 : decode cX16_noRule 1 = .ok (.iconst 0, 1) := by decide +kernel
theorem dX16_noRule_2 : decode cX16_noRule 2 = .ok (.aload_n 0, 1) := by decide +kernel
theorem dX16_noRule_3 : decode cX16_noRule 3 = .ok (.getfield 16, 3) := by decide +kernel
theorem dX16_noRule_6 : decode cX16_noRule 6 = .ok (.invokevirtual 76, 3) := by decide +kernel
theorem dX16_noRule_9 : decode cX16_noRule 9 = .ok (.iconst 1, 1) := by decide +kernel
theorem dX16_noRule_10 : decode cX16_noRule 10 = .ok (.isub, 1) := by decide +kernel
theorem dX16_noRule_11 : decode cX16_noRule 11 = .ok (.invokestatic 72, 3) := by decide +kernel
theorem dX16_noRule_14 : decode cX16_noRule 14 = .ok (.ifCond .ne 7, 3) := by decide +kernel
theorem dX16_noRule_17 : decode cX16_noRule 17 = .ok (.iconst 1, 1) := by decide +kernel
theorem dX16_noRule_18 : decode cX16_noRule 18 = .ok (.goto 4, 3) := by decide +kernel
theorem dX16_noRule_21 : decode cX16_noRule 21 = .ok (.iconst 0, 1) := by decide +kernel
theorem dX16_noRule_22 : decode cX16_noRule 22 = .ok (.ireturn, 1) := by decide +kernel
theorem dX16_change_0 : decode cX16_change 0 = .ok (.aload_n 0, 1) := by decide +kernel
theorem dX16_change_1 : decode cX16_change 1 = .ok (.iconst 0, 1) := by decide +kernel
theorem dX16_change_2 : decode cX16_change 2 = .ok (.putfield 80, 3) := by decide +kernel
theorem dX16_change_5 : decode cX16_change 5 = .ok (.aload_n 0, 1) := by decide +kernel
theorem dX16_change_6 : decode cX16_change 6 = .ok (.iconst 0, 1) := by decide +kernel
theorem dX16_change_7 : decode cX16_change 7 = .ok (.putfield 84, 3) := by decide +kernel
theorem dX16_change_10 : decode cX16_change 10 = .ok (.return_, 1) := by decide +kernel
theorem dX16_addPredicate_0 : decode cX16_addPredicate 0 = .ok (.aload_n 0, 1) := by decide +kernel
theorem dX16_addPredicate_1 : decode cX16_addPredicate 1 = .ok (.iconst 0, 1) := by decide +kernel
theorem dX16_addPredicate_2 : decode cX16_addPredicate 2 = .ok (.putfield 65, 3) := by decide +kernel
theorem dX16_addPredicate_5 : decode cX16_addPredicate 5 = .ok (.aload_n 0, 1) := by decide +kernel
theorem dX16_addPredicate_6 : decode cX16_addPredicate 6 = .ok (.iload_n 1, 1) := by decide +kernel
theorem dX16_addPredicate_7 : decode cX16_addPredicate 7 = .ok (.iconst 0, 1) := by decide +kernel
theorem dX16_addPredicate_8 : decode cX16_addPredicate 8 = .ok (.iconst 2, 1) := by decide +kernel
theorem dX16_addPredicate_9 : decode cX16_addPredicate 9 = .ok (.invokestatic 72, 3) := by decide +kernel
theorem dX16_addPredicate_12 : decode cX16_addPredicate 12 = .ok (.ifCond .ne 7, 3) := by decide +kernel
theorem dX16_addPredicate_15 : decode cX16_addPredicate 15 = .ok (.iconst 1, 1) := by decide +kernel
theorem dX16_addPredicate_16 : decode cX16_addPredicate 16 = .ok (.goto 4, 3) := by decide +kernel
theorem dX16_addPredicate_19 : decode cX16_addPredicate 19 = .ok (.iconst 0, 1) := by decide +kernel
theorem dX16_addPredicate_20 : decode cX16_addPredicate 20 = .ok (.iconst 1, 1) := by decide +kernel
theorem dX16_addPredicate_21 : decode cX16_addPredicate 21 = .ok (.invokevirtual 87, 3) := by decide +kernel
theorem dX16_addPredicate_24 : decode cX16_addPredicate 24 = .ok (.ifCond .ne 25, 3) := by decide +kernel
theorem dX16_addPredicate_27 : decode cX16_addPredicate 27 = .ok (.aload_n 0, 1) := by decide +kernel
theorem dX16_addPredicate_28 : decode cX16_addPredicate 28 = .ok (.aload_n 0, 1) := by decide +kernel
theorem dX16_addPredicate_29 : decode cX16_addPredicate 29 = .ok (.getfield 69, 3) := by decide +kernel
theorem dX16_addPredicate_32 : decode cX16_addPredicate 32 = .ok (.bipush 6, 2) := by decide +kernel
theorem dX16_addPredicate_34 : decode cX16_addPredicate 34 = .ok (.if_icmp .ne 7, 3) := by decide +kernel
theorem dX16_addPredicate_37 : decode cX16_addPredicate 37 = .ok (.iconst 1, 1) := by decide +kernel
theorem dX16_addPredicate_38 : decode cX16_addPredicate 38 = .ok (.goto 4, 3) := by decide +kernel
theorem dX16_addPredicate_41 : decode cX16_addPredicate 41 = .ok (.iconst 0, 1) := by decide +kernel
theorem dX16_addPredicate_42 : decode cX16_addPredicate 42 = .ok (.iconst 2, 1) := by decide +kernel
theorem dX16_addPredicate_43 : decode cX16_addPredicate 43 = .ok (.invokevirtual 87, 3) := by decide +kernel
theorem dX16_addPredicate_46 : decode cX16_addPredicate 46 = .ok (.ifCond .eq 5, 3) := by decide +kernel
theorem dX16_addPredicate_49 : decode cX16_addPredicate 49 = .ok (.iconst 0, 1) := by decide +kernel
theorem dX16_addPredicate_50 : decode cX16_addPredicate 50 = .ok (.ireturn, 1) := by decide +kernel
theorem dX16_addPredicate_51 : decode cX16_addPredicate 51 = .ok (.aload_n 0, 1) := by decide +kernel
theorem dX16_addPredicate_52 : decode cX16_addPredicate 52 = .ok (.getfield 7, 3) := by decide +kernel
theorem dX16_addPredicate_55 : decode cX16_addPredicate 55 = .ok (.aload_n 0, 1) := by decide +kernel
theorem dX16_addPredicate_56 : decode cX16_addPredicate 56 = .ok (.getfield 69, 3) := by decide +kernel
theorem dX16_addPredicate_59 : decode cX16_addPredicate 59 = .ok (.iload_n 1, 1) := by decide +kernel
theorem dX16_addPredicate_60 : decode cX16_addPredicate 60 = .ok (.iastore, 1) := by decide +kernel
theorem dX16_addPredicate_61 : decode cX16_addPredicate 61 = .ok (.aload_n 0, 1) := by decide +kernel
theorem dX16_addPredicate_62 : decode cX16_addPredicate 62 = .ok (.dup, 1) := by decide +kernel
theorem dX16_addPredicate_63 : decode cX16_addPredicate 63 = .ok (.getfield 69, 3) := by decide +kernel
theorem dX16_addPredicate_66 : decode cX16_addPredicate 66 = .ok (.iconst 1, 1) := by decide +kernel
theorem dX16_addPredicate_67 : decode cX16_addPredicate 67 = .ok (.iadd, 1) := by decide +kernel
theorem dX16_addPredicate_68 : decode cX16_addPredicate 68 = .ok (.putfield 69, 3) := by decide +kernel
theorem dX16_addPredicate_71 : decode cX16_addPredicate 71 = .ok (.aload_n 0, 1) := by decide +kernel
theorem dX16_addPredicate_72 : decode cX16_addPredicate 72 = .ok (.invokevirtual 91, 3) := by decide +kernel
theorem dX16_addPredicate_75 : decode cX16_addPredicate 75 = .ok (.aload_n 0, 1) := by decide +kernel
theorem dX16_addPredicate_76 : decode cX16_addPredicate 76 = .ok (.getfield 69, 3) := by decide +kernel
theorem dX16_addPredicate_79 : decode cX16_addPredicate 79 = .ok (.iconst 1, 1) := by decide +kernel
theorem dX16_addPredicate_80 : decode cX16_addPredicate 80 = .ok (.isub, 1) := by decide +kernel
theorem dX16_addPredicate_81 : decode cX16_addPredicate 81 = .ok (.ireturn, 1) := by decide +kernel
theorem dX16_addHead_0 : decode cX16_addHead 0 = .ok (.aload_n 0, 1) := by decide +kernel
theorem dX16_addHead_1 : decode cX16_addHead 1 = .ok (.iconst 0, 1) := by decide +kernel
theorem dX16_addHead_2 : decode cX16_addHead 2 = .ok (.putfield 65, 3) := by decide +kernel
theorem dX16_addHead_5 : decode cX16_addHead 5 = .ok (.aload_n 0, 1) := by decide +kernel
theorem dX16_addHead_6 : decode cX16_addHead 6 = .ok (.aload_n 0, 1) := by decide +kernel
theorem dX16_addHead_7 : decode cX16_addHead 7 = .ok (.iload_n 1, 1) := by decide +kernel
theorem dX16_addHead_8 : decode cX16_addHead 8 = .ok (.invokevirtual 128, 3) := by decide +kernel
theorem dX16_addHead_11 : decode cX16_addHead 11 = .ok (.ifCond .ne 11, 3) := by decide +kernel
theorem dX16_addHead_14 : decode cX16_addHead 14 = .ok (.aload_n 0, 1) := by decide +kernel
theorem dX16_addHead_15 : decode cX16_addHead 15 = .ok (.iload_n 2, 1) := by decide +kernel
theorem dX16_addHead_16 : decode cX16_addHead 16 = .ok (.invokevirtual 106, 3) := by decide +kernel
theorem dX16_addHead_19 : decode cX16_addHead 19 = .ok (.ifCond .eq 7, 3) := by decide +kernel
theorem dX16_addHead_22 : decode cX16_addHead 22 = .ok (.iconst 1, 1) := by decide +kernel
theorem dX16_addHead_23 : decode cX16_addHead 23 = .ok (.goto 4, 3) := by decide +kernel
theorem dX16_addHead_26 : decode cX16_addHead 26 = .ok (.iconst 0, 1) := by decide +kernel
theorem dX16_addHead_27 : decode cX16_addHead 27 = .ok (.iconst 1, 1) := by decide +kernel
theorem dX16_addHead_28 : decode cX16_addHead 28 = .ok (.invokevirtual 87, 3) := by decide +kernel
theorem dX16_addHead_31 : decode cX16_addHead 31 = .ok (.ifCond .ne 72, 3) := by decide +kernel
theorem dX16_addHead_34 : decode cX16_addHead 34 = .ok (.aload_n 0, 1) := by decide +kernel
theorem dX16_addHead_35 : decode cX16_addHead 35 = .ok (.aload_n 0, 1) := by decide +kernel
theorem dX16_addHead_36 : decode cX16_addHead 36 = .ok (.iload_n 2, 1) := by decide +kernel
theorem dX16_addHead_37 : decode cX16_addHead 37 = .ok (.iload_n 3, 1) := by decide +kernel
theorem dX16_addHead_38 : decode cX16_addHead 38 = .ok (.iload 4, 2) := by decide +kernel
theorem dX16_addHead_40 : decode cX16_addHead 40 = .ok (.invokevirtual 131, 3) := by decide +kernel
theorem dX16_addHead_43 : decode cX16_addHead 43 = .ok (.iconst 2, 1) := by decide +kernel
theorem dX16_addHead_44 : decode cX16_addHead 44 = .ok (.invokevirtual 87, 3) := by decide +kernel
theorem dX16_addHead_47 : decode cX16_addHead 47 = .ok (.ifCond .ne 56, 3) := by decide +kernel
theorem dX16_addHead_50 : decode cX16_addHead 50 = .ok (.aload_n 0, 1) := by decide +kernel
theorem dX16_addHead_51 : decode cX16_addHead 51 = .ok (.aload_n 0, 1) := by decide +kernel
theorem dX16_addHead_52 : decode cX16_addHead 52 = .ok (.getfield 16, 3) := by decide +kernel
theorem dX16_addHead_55 : decode cX16_addHead 55 = .ok (.iload_n 1, 1) := by decide +kernel
theorem dX16_addHead_56 : decode cX16_addHead 56 = .ok (.invokevirtual 134, 3) := by decide +kernel
theorem dX16_addHead_59 : decode cX16_addHead 59 = .ok (.checkcast 98, 3) := by decide +kernel
theorem dX16_addHead_62 : decode cX16_addHead 62 = .ok (.getfield 138, 3) := by decide +kernel
theorem dX16_addHead_65 : decode cX16_addHead 65 = .ok (.bipush 119, 2) := by decide +kernel
theorem dX16_addHead_67 : decode cX16_addHead 67 = .ok (.if_icmp .eq 24, 3) := by decide +kernel
theorem dX16_addHead_70 : decode cX16_addHead 70 = .ok (.aload_n 0, 1) := by decide +kernel
theorem dX16_addHead_71 : decode cX16_addHead 71 = .ok (.getfield 16, 3) := by decide +kernel
theorem dX16_addHead_74 : decode cX16_addHead 74 = .ok (.iload_n 1, 1) := by decide +kernel
theorem dX16_addHead_75 : decode cX16_addHead 75 = .ok (.invokevirtual 134, 3) := by decide +kernel
theorem dX16_addHead_78 : decode cX16_addHead 78 = .ok (.checkcast 98, 3) := by decide +kernel
theorem dX16_addHead_81 : decode cX16_addHead 81 = .ok (.getfield 142, 3) := by decide +kernel
theorem dX16_addHead_84 : decode cX16_addHead 84 = .ok (.invokevirtual 76, 3) := by decide +kernel
theorem dX16_addHead_87 : decode cX16_addHead 87 = .ok (.iconst 2, 1) := by decide +kernel
theorem dX16_addHead_88 : decode cX16_addHead 88 = .ok (.if_icmp .ne 7, 3) := by decide +kernel
theorem dX16_addHead_91 : decode cX16_addHead 91 = .ok (.iconst 1, 1) := by decide +kernel
theorem dX16_addHead_92 : decode cX16_addHead 92 = .ok (.goto 4, 3) := by decide +kernel
theorem dX16_addHead_95 : decode cX16_addHead 95 = .ok (.iconst 0, 1) := by decide +kernel
theorem dX16_addHead_96 : decode cX16_addHead 96 = .ok (.iconst 3, 1) := by decide +kernel
theorem dX16_addHead_97 : decode cX16_addHead 97 = .ok (.invokevirtual 87, 3) := by decide +kernel
theorem dX16_addHead_100 : decode cX16_addHead 100 = .ok (.ifCond .eq 5, 3) := by decide +kernel
theorem dX16_addHead_103 : decode cX16_addHead 103 = .ok (.iconst 0, 1) := by decide +kernel
theorem dX16_addHead_104 : decode cX16_addHead 104 = .ok (.ireturn, 1) := by decide +kernel
theorem dX16_addHead_105 : decode cX16_addHead 105 = .ok (.aload_n 0, 1) := by decide +kernel
theorem dX16_addHead_106 : decode cX16_addHead 106 = .ok (.getfield 16, 3) := by decide +kernel
theorem dX16_addHead_109 : decode cX16_addHead 109 = .ok (.iload_n 1, 1) := by decide +kernel
theorem dX16_addHead_110 : decode cX16_addHead 110 = .ok (.invokevirtual 134, 3) := by decide +kernel
theorem dX16_addHead_113 : decode cX16_addHead 113 = .ok (.checkcast 98, 3) := by decide +kernel
theorem dX16_addHead_116 : decode cX16_addHead 116 = .ok (.getfield 142, 3) := by decide +kernel
theorem dX16_addHead_119 : decode cX16_addHead 119 = .ok (.new 144, 3) := by decide +kernel
theorem dX16_addHead_122 : decode cX16_addHead 122 = .ok (.dup, 1) := by decide +kernel
theorem dX16_addHead_123 : decode cX16_addHead 123 = .ok (.bipush 104, 2) := by decide +kernel
theorem dX16_addHead_125 : decode cX16_addHead 125 = .ok (.iload_n 2, 1) := by decide +kernel
theorem dX16_addHead_126 : decode cX16_addHead 126 = .ok (.iload_n 3, 1) := by decide +kernel
theorem dX16_addHead_127 : decode cX16_addHead 127 = .ok (.iload 4, 2) := by decide +kernel
theorem dX16_addHead_129 : decode cX16_addHead 129 = .ok (.invokespecial 146, 3) := by decide +kernel
theorem dX16_addHead_132 : decode cX16_addHead 132 = .ok (.invokevirtual 94, 3) := by decide +kernel
theorem dX16_addHead_135 : decode cX16_addHead 135 = .ok (.pop, 1) := by decide +kernel
theorem dX16_addHead_136 : decode cX16_addHead 136 = .ok (.aload_n 0, 1) := by decide +kernel
theorem dX16_addHead_137 : decode cX16_addHead 137 = .ok (.invokevirtual 91, 3) := by decide +kernel
theorem dX16_addHead_140 : decode cX16_addHead 140 = .ok (.aload_n 0, 1) := by decide +kernel
theorem dX16_addHead_141 : decode cX16_addHead 141 = .ok (.getfield 16, 3) := by decide +kernel
theorem dX16_addHead_144 : decode cX16_addHead 144 = .ok (.iload_n 1, 1) := by decide +kernel
theorem dX16_addHead_145 : decode cX16_addHead 145 = .ok (.invokevirtual 134, 3) := by decide +kernel
theorem dX16_addHead_148 : decode cX16_addHead 148 = .ok (.checkcast 98, 3) := by decide +kernel
theorem dX16_addHead_151 : decode cX16_addHead 151 = .ok (.getfield 142, 3) := by decide +kernel
theorem dX16_addHead_154 : decode cX16_addHead 154 = .ok (.invokevirtual 76, 3) := by decide +kernel
theorem dX16_addHead_157 : decode cX16_addHead 157 = .ok (.ireturn, 1) := by decide +kernel
theorem dX16_addAtom_0 : decode cX16_addAtom 0 = .ok (.aload_n 0, 1) := by decide +kernel
theorem dX16_addAtom_1 : decode cX16_addAtom 1 = .ok (.iconst 0, 1) := by decide +kernel
theorem dX16_addAtom_2 : decode cX16_addAtom 2 = .ok (.putfield 65, 3) := by decide +kernel
theorem dX16_addAtom_5 : decode cX16_addAtom 5 = .ok (.aload_n 0, 1) := by decide +kernel
theorem dX16_addAtom_6 : decode cX16_addAtom 6 = .ok (.aload_n 0, 1) := by decide +kernel
theorem dX16_addAtom_7 : decode cX16_addAtom 7 = .ok (.iload_n 1, 1) := by decide +kernel
theorem dX16_addAtom_8 : decode cX16_addAtom 8 = .ok (.invokevirtual 128, 3) := by decide +kernel
theorem dX16_addAtom_11 : decode cX16_addAtom 11 = .ok (.ifCond .ne 11, 3) := by decide +kernel
theorem dX16_addAtom_14 : decode cX16_addAtom 14 = .ok (.aload_n 0, 1) := by decide +kernel
theorem dX16_addAtom_15 : decode cX16_addAtom 15 = .ok (.iload_n 3, 1) := by decide +kernel
theorem dX16_addAtom_16 : decode cX16_addAtom 16 = .ok (.invokevirtual 106, 3) := by decide +kernel
theorem dX16_addAtom_19 : decode cX16_addAtom 19 = .ok (.ifCond .eq 7, 3) := by decide +kernel
theorem dX16_addAtom_22 : decode cX16_addAtom 22 = .ok (.iconst 1, 1) := by decide +kernel
theorem dX16_addAtom_23 : decode cX16_addAtom 23 = .ok (.goto 4, 3) := by decide +kernel
theorem dX16_addAtom_26 : decode cX16_addAtom 26 = .ok (.iconst 0, 1) := by decide +kernel
theorem dX16_addAtom_27 : decode cX16_addAtom 27 = .ok (.iconst 1, 1) := by decide +kernel
theorem dX16_addAtom_28 : decode cX16_addAtom 28 = .ok (.invokevirtual 87, 3) := by decide +kernel
theorem dX16_addAtom_31 : decode cX16_addAtom 31 = .ok (.ifCond .eq 5, 3) := by decide +kernel
theorem dX16_addAtom_34 : decode cX16_addAtom 34 = .ok (.iconst 0, 1) := by decide +kernel
theorem dX16_addAtom_35 : decode cX16_addAtom 35 = .ok (.ireturn, 1) := by decide +kernel
theorem dX16_addAtom_36 : decode cX16_addAtom 36 = .ok (.aload_n 0, 1) := by decide +kernel
theorem dX16_addAtom_37 : decode cX16_addAtom 37 = .ok (.iload_n 3, 1) := by decide +kernel
theorem dX16_addAtom_38 : decode cX16_addAtom 38 = .ok (.iload 4, 2) := by decide +kernel
theorem dX16_addAtom_40 : decode cX16_addAtom 40 = .ok (.iload 5, 2) := by decide +kernel
theorem dX16_addAtom_42 : decode cX16_addAtom 42 = .ok (.invokevirtual 131, 3) := by decide +kernel
theorem dX16_addAtom_45 : decode cX16_addAtom 45 = .ok (.ifCond .ne 42, 3) := by decide +kernel
theorem dX16_addAtom_48 : decode cX16_addAtom 48 = .ok (.aload_n 0, 1) := by decide +kernel
theorem dX16_addAtom_49 : decode cX16_addAtom 49 = .ok (.getfield 7, 3) := by decide +kernel
theorem dX16_addAtom_52 : decode cX16_addAtom 52 = .ok (.iload_n 3, 1) := by decide +kernel
theorem dX16_addAtom_53 : decode cX16_addAtom 53 = .ok (.iaload, 1) := by decide +kernel
theorem dX16_addAtom_54 : decode cX16_addAtom 54 = .ok (.ifCond .le 13, 3) := by decide +kernel
theorem dX16_addAtom_57 : decode cX16_addAtom 57 = .ok (.aload_n 0, 1) := by decide +kernel
theorem dX16_addAtom_58 : decode cX16_addAtom 58 = .ok (.iload_n 1, 1) := by decide +kernel
theorem dX16_addAtom_59 : decode cX16_addAtom 59 = .ok (.iload 4, 2) := by decide +kernel
theorem dX16_addAtom_61 : decode cX16_addAtom 61 = .ok (.invokevirtual 156, 3) := by decide +kernel
theorem dX16_addAtom_64 : decode cX16_addAtom 64 = .ok (.ifCond .ne 23, 3) := by decide +kernel
theorem dX16_addAtom_67 : decode cX16_addAtom 67 = .ok (.aload_n 0, 1) := by decide +kernel
theorem dX16_addAtom_68 : decode cX16_addAtom 68 = .ok (.getfield 7, 3) := by decide +kernel
theorem dX16_addAtom_71 : decode cX16_addAtom 71 = .ok (.iload_n 3, 1) := by decide +kernel
theorem dX16_addAtom_72 : decode cX16_addAtom 72 = .ok (.iaload, 1) := by decide +kernel
theorem dX16_addAtom_73 : decode cX16_addAtom 73 = .ok (.iconst 1, 1) := by decide +kernel
theorem dX16_addAtom_74 : decode cX16_addAtom 74 = .ok (.if_icmp .le 17, 3) := by decide +kernel
theorem dX16_addAtom_77 : decode cX16_addAtom 77 = .ok (.aload_n 0, 1) := by decide +kernel
theorem dX16_addAtom_78 : decode cX16_addAtom 78 = .ok (.iload_n 1, 1) := by decide +kernel
theorem dX16_addAtom_79 : decode cX16_addAtom 79 = .ok (.iload 5, 2) := by decide +kernel
theorem dX16_addAtom_81 : decode cX16_addAtom 81 = .ok (.invokevirtual 156, 3) := by decide +kernel
theorem dX16_addAtom_84 : decode cX16_addAtom 84 = .ok (.ifCond .eq 7, 3) := by decide +kernel
theorem dX16_addAtom_87 : decode cX16_addAtom 87 = .ok (.iconst 1, 1) := by decide +kernel
theorem dX16_addAtom_88 : decode cX16_addAtom 88 = .ok (.goto 4, 3) := by decide +kernel
theorem dX16_addAtom_91 : decode cX16_addAtom 91 = .ok (.iconst 0, 1) := by decide +kernel
theorem dX16_addAtom_92 : decode cX16_addAtom 92 = .ok (.istore 6, 2) := by decide +kernel
theorem dX16_addAtom_94 : decode cX16_addAtom 94 = .ok (.aload_n 0, 1) := by decide +kernel
theorem dX16_addAtom_95 : decode cX16_addAtom 95 = .ok (.iload 6, 2) := by decide +kernel
theorem dX16_addAtom_97 : decode cX16_addAtom 97 = .ok (.iconst 2, 1) := by decide +kernel
theorem dX16_addAtom_98 : decode cX16_addAtom 98 = .ok (.invokevirtual 87, 3) := by decide +kernel
theorem dX16_addAtom_101 : decode cX16_addAtom 101 = .ok (.ifCond .ne 16, 3) := by decide +kernel
theorem dX16_addAtom_104 : decode cX16_addAtom 104 = .ok (.aload_n 0, 1) := by decide +kernel
theorem dX16_addAtom_105 : decode cX16_addAtom 105 = .ok (.aload_n 0, 1) := by decide +kernel
theorem dX16_addAtom_106 : decode cX16_addAtom 106 = .ok (.iload_n 1, 1) := by decide +kernel
theorem dX16_addAtom_107 : decode cX16_addAtom 107 = .ok (.invokevirtual 160, 3) := by decide +kernel
theorem dX16_addAtom_110 : decode cX16_addAtom 110 = .ok (.iconst 3, 1) := by decide +kernel
theorem dX16_addAtom_111 : decode cX16_addAtom 111 = .ok (.invokevirtual 87, 3) := by decide +kernel
theorem dX16_addAtom_114 : decode cX16_addAtom 114 = .ok (.ifCond .eq 7, 3) := by decide +kernel
theorem dX16_addAtom_117 : decode cX16_addAtom 117 = .ok (.iconst 0, 1) := by decide +kernel
theorem dX16_addAtom_118 : decode cX16_addAtom 118 = .ok (.goto 31, 3) := by decide +kernel
theorem dX16_addAtom_121 : decode cX16_addAtom 121 = .ok (.aload_n 0, 1) := by decide +kernel
theorem dX16_addAtom_122 : decode cX16_addAtom 122 = .ok (.iload_n 1, 1) := by decide +kernel
theorem dX16_addAtom_123 : decode cX16_addAtom 123 = .ok (.new 144, 3) := by decide +kernel
theorem dX16_addAtom_126 : decode cX16_addAtom 126 = .ok (.dup, 1) := by decide +kernel
theorem dX16_addAtom_127 : decode cX16_addAtom 127 = .ok (.iload_n 2, 1) := by decide +kernel
theorem dX16_addAtom_128 : decode cX16_addAtom 128 = .ok (.ifCond .eq 8, 3) := by decide +kernel
theorem dX16_addAtom_131 : decode cX16_addAtom 131 = .ok (.bipush 116, 2) := by decide +kernel
theorem dX16_addAtom_133 : decode cX16_addAtom 133 = .ok (.goto 5, 3) := by decide +kernel
theorem dX16_addAtom_136 : decode cX16_addAtom 136 = .ok (.bipush 102, 2) := by decide +kernel
theorem dX16_addAtom_138 : decode cX16_addAtom 138 = .ok (.iload_n 3, 1) := by decide +kernel
theorem dX16_addAtom_139 : decode cX16_addAtom 139 = .ok (.iload 4, 2) := by decide +kernel
theorem dX16_addAtom_141 : decode cX16_addAtom 141 = .ok (.iload 5, 2) := by decide +kernel
theorem dX16_addAtom_143 : decode cX16_addAtom 143 = .ok (.invokespecial 146, 3) := by decide +kernel
theorem dX16_addAtom_146 : decode cX16_addAtom 146 = .ok (.invokevirtual 163, 3) := by decide +kernel
theorem dX16_addAtom_149 : decode cX16_addAtom 149 = .ok (.ireturn, 1) := by decide +kernel
theorem dX16_addTest_0 : decode cX16_addTest 0 = .ok (.aload_n 0, 1) := by decide +kernel
theorem dX16_addTest_1 : decode cX16_addTest 1 = .ok (.iconst 0, 1) := by decide +kernel
theorem dX16_addTest_2 : decode cX16_addTest 2 = .ok (.putfield 65, 3) := by decide +kernel
theorem dX16_addTest_5 : decode cX16_addTest 5 = .ok (.aload_n 0, 1) := by decide +kernel
theorem dX16_addTest_6 : decode cX16_addTest 6 = .ok (.aload_n 0, 1) := by decide +kernel
theorem dX16_addTest_7 : decode cX16_addTest 7 = .ok (.iload_n 1, 1) := by decide +kernel
theorem dX16_addTest_8 : decode cX16_addTest 8 = .ok (.invokevirtual 128, 3) := by decide +kernel
theorem dX16_addTest_11 : decode cX16_addTest 11 = .ok (.iconst 1, 1) := by decide +kernel
theorem dX16_addTest_12 : decode cX16_addTest 12 = .ok (.invokevirtual 87, 3) := by decide +kernel
theorem dX16_addTest_15 : decode cX16_addTest 15 = .ok (.ifCond .eq 5, 3) := by decide +kernel
theorem dX16_addTest_18 : decode cX16_addTest 18 = .ok (.iconst 0, 1) := by decide +kernel
theorem dX16_addTest_19 : decode cX16_addTest 19 = .ok (.ireturn, 1) := by decide +kernel
theorem dX16_addTest_20 : decode cX16_addTest 20 = .ok (.iload_n 2, 1) := by decide +kernel
theorem dX16_addTest_21 : decode cX16_addTest 21 = .ok (.bipush 60, 2) := by decide +kernel
theorem dX16_addTest_23 : decode cX16_addTest 23 = .ok (.if_icmp .eq 15, 3) := by decide +kernel
theorem dX16_addTest_26 : decode cX16_addTest 26 = .ok (.iload_n 2, 1) := by decide +kernel
theorem dX16_addTest_27 : decode cX16_addTest 27 = .ok (.bipush 61, 2) := by decide +kernel
theorem dX16_addTest_29 : decode cX16_addTest 29 = .ok (.if_icmp .eq 9, 3) := by decide +kernel
theorem dX16_addTest_32 : decode cX16_addTest 32 = .ok (.iload_n 2, 1) := by decide +kernel
theorem dX16_addTest_33 : decode cX16_addTest 33 = .ok (.bipush 33, 2) := by decide +kernel
theorem dX16_addTest_35 : decode cX16_addTest 35 = .ok (.if_icmp .ne 22, 3) := by decide +kernel
theorem dX16_addTest_38 : decode cX16_addTest 38 = .ok (.iload_n 3, 1) := by decide +kernel
theorem dX16_addTest_39 : decode cX16_addTest 39 = .ok (.invokestatic 125, 3) := by decide +kernel
theorem dX16_addTest_42 : decode cX16_addTest 42 = .ok (.ifCond .eq 15, 3) := by decide +kernel
theorem dX16_addTest_45 : decode cX16_addTest 45 = .ok (.iload 4, 2) := by decide +kernel
theorem dX16_addTest_47 : decode cX16_addTest 47 = .ok (.invokestatic 125, 3) := by decide +kernel
theorem dX16_addTest_50 : decode cX16_addTest 50 = .ok (.ifCond .eq 7, 3) := by decide +kernel
theorem dX16_addTest_53 : decode cX16_addTest 53 = .ok (.iconst 1, 1) := by decide +kernel
theorem dX16_addTest_54 : decode cX16_addTest 54 = .ok (.goto 4, 3) := by decide +kernel
theorem dX16_addTest_57 : decode cX16_addTest 57 = .ok (.iconst 0, 1) := by decide +kernel
theorem dX16_addTest_58 : decode cX16_addTest 58 = .ok (.istore 5, 2) := by decide +kernel
theorem dX16_addTest_60 : decode cX16_addTest 60 = .ok (.aload_n 0, 1) := by decide +kernel
theorem dX16_addTest_61 : decode cX16_addTest 61 = .ok (.iload 5, 2) := by decide +kernel
theorem dX16_addTest_63 : decode cX16_addTest 63 = .ok (.ifCond .eq 22, 3) := by decide +kernel
theorem dX16_addTest_66 : decode cX16_addTest 66 = .ok (.aload_n 0, 1) := by decide +kernel
theorem dX16_addTest_67 : decode cX16_addTest 67 = .ok (.iload_n 1, 1) := by decide +kernel
theorem dX16_addTest_68 : decode cX16_addTest 68 = .ok (.iload_n 3, 1) := by decide +kernel
theorem dX16_addTest_69 : decode cX16_addTest 69 = .ok (.invokevirtual 156, 3) := by decide +kernel
theorem dX16_addTest_72 : decode cX16_addTest 72 = .ok (.ifCond .ne 13, 3) := by decide +kernel
theorem dX16_addTest_75 : decode cX16_addTest 75 = .ok (.aload_n 0, 1) := by decide +kernel
theorem dX16_addTest_76 : decode cX16_addTest 76 = .ok (.iload_n 1, 1) := by decide +kernel
theorem dX16_addTest_77 : decode cX16_addTest 77 = .ok (.iload 4, 2) := by decide +kernel
theorem dX16_addTest_79 : decode cX16_addTest 79 = .ok (.invokevirtual 156, 3) := by decide +kernel
theorem dX16_addTest_82 : decode cX16_addTest 82 = .ok (.ifCond .eq 7, 3) := by decide +kernel
theorem dX16_addTest_85 : decode cX16_addTest 85 = .ok (.iconst 1, 1) := by decide +kernel
theorem dX16_addTest_86 : decode cX16_addTest 86 = .ok (.goto 4, 3) := by decide +kernel
theorem dX16_addTest_89 : decode cX16_addTest 89 = .ok (.iconst 0, 1) := by decide +kernel
theorem dX16_addTest_90 : decode cX16_addTest 90 = .ok (.iconst 2, 1) := by decide +kernel
theorem dX16_addTest_91 : decode cX16_addTest 91 = .ok (.invokevirtual 87, 3) := by decide +kernel
theorem dX16_addTest_94 : decode cX16_addTest 94 = .ok (.ifCond .ne 16, 3) := by decide +kernel
theorem dX16_addTest_97 : decode cX16_addTest 97 = .ok (.aload_n 0, 1) := by decide +kernel
theorem dX16_addTest_98 : decode cX16_addTest 98 = .ok (.aload_n 0, 1) := by decide +kernel
theorem dX16_addTest_99 : decode cX16_addTest 99 = .ok (.iload_n 1, 1) := by decide +kernel
theorem dX16_addTest_100 : decode cX16_addTest 100 = .ok (.invokevirtual 160, 3) := by decide +kernel
theorem dX16_addTest_103 : decode cX16_addTest 103 = .ok (.iconst 3, 1) := by decide +kernel
theorem dX16_addTest_104 : decode cX16_addTest 104 = .ok (.invokevirtual 87, 3) := by decide +kernel
theorem dX16_addTest_107 : decode cX16_addTest 107 = .ok (.ifCond .eq 7, 3) := by decide +kernel
theorem dX16_addTest_110 : decode cX16_addTest 110 = .ok (.iconst 0, 1) := by decide +kernel
theorem dX16_addTest_111 : decode cX16_addTest 111 = .ok (.goto 20, 3) := by decide +kernel
theorem dX16_addTest_114 : decode cX16_addTest 114 = .ok (.aload_n 0, 1) := by decide +kernel
theorem dX16_addTest_115 : decode cX16_addTest 115 = .ok (.iload_n 1, 1) := by decide +kernel
theorem dX16_addTest_116 : decode cX16_addTest 116 = .ok (.new 144, 3) := by decide +kernel
theorem dX16_addTest_119 : decode cX16_addTest 119 = .ok (.dup, 1) := by decide +kernel
theorem dX16_addTest_120 : decode cX16_addTest 120 = .ok (.iload_n 2, 1) := by decide +kernel
theorem dX16_addTest_121 : decode cX16_addTest 121 = .ok (.iconst (-1), 1) := by decide +kernel
theorem dX16_addTest_122 : decode cX16_addTest 122 = .ok (.iload_n 3, 1) := by decide +kernel
theorem dX16_addTest_123 : decode cX16_addTest 123 = .ok (.iload 4, 2) := by decide +kernel
theorem dX16_addTest_125 : decode cX16_addTest 125 = .ok (.invokespecial 146, 3) := by decide +kernel
theorem dX16_addTest_128 : decode cX16_addTest 128 = .ok (.invokevirtual 163, 3) := by decide +kernel
theorem dX16_addTest_131 : decode cX16_addTest 131 = .ok (.ireturn, 1) := by decide +kernel
theorem dX16_addCount_0 : decode cX16_addCount 0 = .ok (.aload_n 0, 1) := by decide +kernel
theorem dX16_addCount_1 : decode cX16_addCount 1 = .ok (.iconst 0, 1) := by decide +kernel
theorem dX16_addCount_2 : decode cX16_addCount 2 = .ok (.putfield 65, 3) := by decide +kernel
theorem dX16_addCount_5 : decode cX16_addCount 5 = .ok (.aload_n 0, 1) := by decide +kernel
theorem dX16_addCount_6 : decode cX16_addCount 6 = .ok (.aload_n 0, 1) := by decide +kernel
theorem dX16_addCount_7 : decode cX16_addCount 7 = .ok (.iload_n 1, 1) := by decide +kernel
theorem dX16_addCount_8 : decode cX16_addCount 8 = .ok (.invokevirtual 128, 3) := by decide +kernel
theorem dX16_addCount_11 : decode cX16_addCount 11 = .ok (.ifCond .ne 11, 3) := by decide +kernel
theorem dX16_addCount_14 : decode cX16_addCount 14 = .ok (.aload_n 0, 1) := by decide +kernel
theorem dX16_addCount_15 : decode cX16_addCount 15 = .ok (.iload_n 3, 1) := by decide +kernel
theorem dX16_addCount_16 : decode cX16_addCount 16 = .ok (.invokevirtual 106, 3) := by decide +kernel
theorem dX16_addCount_19 : decode cX16_addCount 19 = .ok (.ifCond .eq 7, 3) := by decide +kernel
theorem dX16_addCount_22 : decode cX16_addCount 22 = .ok (.iconst 1, 1) := by decide +kernel
theorem dX16_addCount_23 : decode cX16_addCount 23 = .ok (.goto 4, 3) := by decide +kernel
theorem dX16_addCount_26 : decode cX16_addCount 26 = .ok (.iconst 0, 1) := by decide +kernel
theorem dX16_addCount_27 : decode cX16_addCount 27 = .ok (.iconst 1, 1) := by decide +kernel
theorem dX16_addCount_28 : decode cX16_addCount 28 = .ok (.invokevirtual 87, 3) := by decide +kernel
theorem dX16_addCount_31 : decode cX16_addCount 31 = .ok (.ifCond .ne 52, 3) := by decide +kernel
theorem dX16_addCount_34 : decode cX16_addCount 34 = .ok (.aload_n 0, 1) := by decide +kernel
theorem dX16_addCount_35 : decode cX16_addCount 35 = .ok (.iload_n 2, 1) := by decide +kernel
theorem dX16_addCount_36 : decode cX16_addCount 36 = .ok (.bipush 103, 2) := by decide +kernel
theorem dX16_addCount_38 : decode cX16_addCount 38 = .ok (.if_icmp .eq 9, 3) := by decide +kernel
theorem dX16_addCount_41 : decode cX16_addCount 41 = .ok (.iload_n 2, 1) := by decide +kernel
theorem dX16_addCount_42 : decode cX16_addCount 42 = .ok (.bipush 108, 2) := by decide +kernel
theorem dX16_addCount_44 : decode cX16_addCount 44 = .ok (.if_icmp .ne 14, 3) := by decide +kernel
theorem dX16_addCount_47 : decode cX16_addCount 47 = .ok (.iload 4, 2) := by decide +kernel
theorem dX16_addCount_49 : decode cX16_addCount 49 = .ok (.iconst 0, 1) := by decide +kernel
theorem dX16_addCount_50 : decode cX16_addCount 50 = .ok (.bipush 20, 2) := by decide +kernel
theorem dX16_addCount_52 : decode cX16_addCount 52 = .ok (.invokestatic 72, 3) := by decide +kernel
theorem dX16_addCount_55 : decode cX16_addCount 55 = .ok (.ifCond .ne 7, 3) := by decide +kernel
theorem dX16_addCount_58 : decode cX16_addCount 58 = .ok (.iconst 1, 1) := by decide +kernel
theorem dX16_addCount_59 : decode cX16_addCount 59 = .ok (.goto 4, 3) := by decide +kernel
theorem dX16_addCount_62 : decode cX16_addCount 62 = .ok (.iconst 0, 1) := by decide +kernel
theorem dX16_addCount_63 : decode cX16_addCount 63 = .ok (.iconst 2, 1) := by decide +kernel
theorem dX16_addCount_64 : decode cX16_addCount 64 = .ok (.invokevirtual 87, 3) := by decide +kernel
theorem dX16_addCount_67 : decode cX16_addCount 67 = .ok (.ifCond .ne 16, 3) := by decide +kernel
theorem dX16_addCount_70 : decode cX16_addCount 70 = .ok (.aload_n 0, 1) := by decide +kernel
theorem dX16_addCount_71 : decode cX16_addCount 71 = .ok (.aload_n 0, 1) := by decide +kernel
theorem dX16_addCount_72 : decode cX16_addCount 72 = .ok (.iload_n 1, 1) := by decide +kernel
theorem dX16_addCount_73 : decode cX16_addCount 73 = .ok (.invokevirtual 160, 3) := by decide +kernel
theorem dX16_addCount_76 : decode cX16_addCount 76 = .ok (.iconst 3, 1) := by decide +kernel
theorem dX16_addCount_77 : decode cX16_addCount 77 = .ok (.invokevirtual 87, 3) := by decide +kernel
theorem dX16_addCount_80 : decode cX16_addCount 80 = .ok (.ifCond .eq 5, 3) := by decide +kernel
theorem dX16_addCount_83 : decode cX16_addCount 83 = .ok (.iconst 0, 1) := by decide +kernel
theorem dX16_addCount_84 : decode cX16_addCount 84 = .ok (.ireturn, 1) := by decide +kernel
theorem dX16_addCount_85 : decode cX16_addCount 85 = .ok (.aload_n 0, 1) := by decide +kernel
theorem dX16_addCount_86 : decode cX16_addCount 86 = .ok (.iload_n 1, 1) := by decide +kernel
theorem dX16_addCount_87 : decode cX16_addCount 87 = .ok (.new 144, 3) := by decide +kernel
theorem dX16_addCount_90 : decode cX16_addCount 90 = .ok (.dup, 1) := by decide +kernel
theorem dX16_addCount_91 : decode cX16_addCount 91 = .ok (.iload_n 2, 1) := by decide +kernel
theorem dX16_addCount_92 : decode cX16_addCount 92 = .ok (.iload_n 3, 1) := by decide +kernel
theorem dX16_addCount_93 : decode cX16_addCount 93 = .ok (.iload 4, 2) := by decide +kernel
theorem dX16_addCount_95 : decode cX16_addCount 95 = .ok (.iconst 0, 1) := by decide +kernel
theorem dX16_addCount_96 : decode cX16_addCount 96 = .ok (.invokespecial 146, 3) := by decide +kernel
theorem dX16_addCount_99 : decode cX16_addCount 99 = .ok (.invokevirtual 163, 3) := by decide +kernel
theorem dX16_addCount_102 : decode cX16_addCount 102 = .ok (.ireturn, 1) := by decide +kernel
theorem dX16_addExternal_0 : decode cX16_addExternal 0 = .ok (.aload_n 0, 1) := by decide +kernel
theorem dX16_addExternal_1 : decode cX16_addExternal 1 = .ok (.iconst 0, 1) := by decide +kernel
theorem dX16_addExternal_2 : decode cX16_addExternal 2 = .ok (.putfield 65, 3) := by decide +kernel
theorem dX16_addExternal_5 : decode cX16_addExternal 5 = .ok (.aload_n 0, 1) := by decide +kernel
theorem dX16_addExternal_6 : decode cX16_addExternal 6 = .ok (.aload_n 0, 1) := by decide +kernel
theorem dX16_addExternal_7 : decode cX16_addExternal 7 = .ok (.iload_n 1, 1) := by decide +kernel
theorem dX16_addExternal_8 : decode cX16_addExternal 8 = .ok (.invokevirtual 106, 3) := by decide +kernel
theorem dX16_addExternal_11 : decode cX16_addExternal 11 = .ok (.iconst 1, 1) := by decide +kernel
theorem dX16_addExternal_12 : decode cX16_addExternal 12 = .ok (.invokevirtual 87, 3) := by decide +kernel
theorem dX16_addExternal_15 : decode cX16_addExternal 15 = .ok (.ifCond .ne 55, 3) := by decide +kernel
theorem dX16_addExternal_18 : decode cX16_addExternal 18 = .ok (.aload_n 0, 1) := by decide +kernel
theorem dX16_addExternal_19 : decode cX16_addExternal 19 = .ok (.aload_n 0, 1) := by decide +kernel
theorem dX16_addExternal_20 : decode cX16_addExternal 20 = .ok (.iload_n 1, 1) := by decide +kernel
theorem dX16_addExternal_21 : decode cX16_addExternal 21 = .ok (.iload_n 2, 1) := by decide +kernel
theorem dX16_addExternal_22 : decode cX16_addExternal 22 = .ok (.iload_n 3, 1) := by decide +kernel
theorem dX16_addExternal_23 : decode cX16_addExternal 23 = .ok (.invokevirtual 185, 3) := by decide +kernel
theorem dX16_addExternal_26 : decode cX16_addExternal 26 = .ok (.iconst 2, 1) := by decide +kernel
theorem dX16_addExternal_27 : decode cX16_addExternal 27 = .ok (.invokevirtual 87, 3) := by decide +kernel
theorem dX16_addExternal_30 : decode cX16_addExternal 30 = .ok (.ifCond .ne 40, 3) := by decide +kernel
theorem dX16_addExternal_33 : decode cX16_addExternal 33 = .ok (.aload_n 0, 1) := by decide +kernel
theorem dX16_addExternal_34 : decode cX16_addExternal 34 = .ok (.aload_n 0, 1) := by decide +kernel
theorem dX16_addExternal_35 : decode cX16_addExternal 35 = .ok (.getfield 182, 3) := by decide +kernel
theorem dX16_addExternal_38 : decode cX16_addExternal 38 = .ok (.bipush 6, 2) := by decide +kernel
theorem dX16_addExternal_40 : decode cX16_addExternal 40 = .ok (.if_icmp .eq 18, 3) := by decide +kernel
theorem dX16_addExternal_43 : decode cX16_addExternal 43 = .ok (.aload_n 0, 1) := by decide +kernel
theorem dX16_addExternal_44 : decode cX16_addExternal 44 = .ok (.aload_n 0, 1) := by decide +kernel
theorem dX16_addExternal_45 : decode cX16_addExternal 45 = .ok (.iload_n 1, 1) := by decide +kernel
theorem dX16_addExternal_46 : decode cX16_addExternal 46 = .ok (.iload_n 2, 1) := by decide +kernel
theorem dX16_addExternal_47 : decode cX16_addExternal 47 = .ok (.iload_n 3, 1) := by decide +kernel
theorem dX16_addExternal_48 : decode cX16_addExternal 48 = .ok (.invokevirtual 188, 3) := by decide +kernel
theorem dX16_addExternal_51 : decode cX16_addExternal 51 = .ok (.invokevirtual 192, 3) := by decide +kernel
theorem dX16_addExternal_54 : decode cX16_addExternal 54 = .ok (.iconst (-1), 1) := by decide +kernel
theorem dX16_addExternal_55 : decode cX16_addExternal 55 = .ok (.if_icmp .eq 7, 3) := by decide +kernel
theorem dX16_addExternal_58 : decode cX16_addExternal 58 = .ok (.iconst 1, 1) := by decide +kernel
theorem dX16_addExternal_59 : decode cX16_addExternal 59 = .ok (.goto 4, 3) := by decide +kernel
theorem dX16_addExternal_62 : decode cX16_addExternal 62 = .ok (.iconst 0, 1) := by decide +kernel
theorem dX16_addExternal_63 : decode cX16_addExternal 63 = .ok (.iconst 3, 1) := by decide +kernel
theorem dX16_addExternal_64 : decode cX16_addExternal 64 = .ok (.invokevirtual 87, 3) := by decide +kernel
theorem dX16_addExternal_67 : decode cX16_addExternal 67 = .ok (.ifCond .eq 5, 3) := by decide +kernel
theorem dX16_addExternal_70 : decode cX16_addExternal 70 = .ok (.iconst 0, 1) := by decide +kernel
theorem dX16_addExternal_71 : decode cX16_addExternal 71 = .ok (.ireturn, 1) := by decide +kernel
theorem dX16_addExternal_72 : decode cX16_addExternal 72 = .ok (.aload_n 0, 1) := by decide +kernel
theorem dX16_addExternal_73 : decode cX16_addExternal 73 = .ok (.getfield 23, 3) := by decide +kernel
theorem dX16_addExternal_76 : decode cX16_addExternal 76 = .ok (.aload_n 0, 1) := by decide +kernel
theorem dX16_addExternal_77 : decode cX16_addExternal 77 = .ok (.getfield 182, 3) := by decide +kernel
theorem dX16_addExternal_80 : decode cX16_addExternal 80 = .ok (.aload_n 0, 1) := by decide +kernel
theorem dX16_addExternal_81 : decode cX16_addExternal 81 = .ok (.iload_n 1, 1) := by decide +kernel
theorem dX16_addExternal_82 : decode cX16_addExternal 82 = .ok (.iload_n 2, 1) := by decide +kernel
theorem dX16_addExternal_83 : decode cX16_addExternal 83 = .ok (.iload_n 3, 1) := by decide +kernel
theorem dX16_addExternal_84 : decode cX16_addExternal 84 = .ok (.invokevirtual 188, 3) := by decide +kernel
theorem dX16_addExternal_87 : decode cX16_addExternal 87 = .ok (.iastore, 1) := by decide +kernel
theorem dX16_addExternal_88 : decode cX16_addExternal 88 = .ok (.aload_n 0, 1) := by decide +kernel
theorem dX16_addExternal_89 : decode cX16_addExternal 89 = .ok (.getfield 26, 3) := by decide +kernel
theorem dX16_addExternal_92 : decode cX16_addExternal 92 = .ok (.aload_n 0, 1) := by decide +kernel
theorem dX16_addExternal_93 : decode cX16_addExternal 93 = .ok (.getfield 182, 3) := by decide +kernel
theorem dX16_addExternal_96 : decode cX16_addExternal 96 = .ok (.bipush 102, 2) := by decide +kernel
theorem dX16_addExternal_98 : decode cX16_addExternal 98 = .ok (.castore, 1) := by decide +kernel
theorem dX16_addExternal_99 : decode cX16_addExternal 99 = .ok (.aload_n 0, 1) := by decide +kernel
theorem dX16_addExternal_100 : decode cX16_addExternal 100 = .ok (.dup, 1) := by decide +kernel
theorem dX16_addExternal_101 : decode cX16_addExternal 101 = .ok (.getfield 182, 3) := by decide +kernel
theorem dX16_addExternal_104 : decode cX16_addExternal 104 = .ok (.iconst 1, 1) := by decide +kernel
theorem dX16_addExternal_105 : decode cX16_addExternal 105 = .ok (.iadd, 1) := by decide +kernel
theorem dX16_addExternal_106 : decode cX16_addExternal 106 = .ok (.putfield 182, 3) := by decide +kernel
theorem dX16_addExternal_109 : decode cX16_addExternal 109 = .ok (.aload_n 0, 1) := by decide +kernel
theorem dX16_addExternal_110 : decode cX16_addExternal 110 = .ok (.invokevirtual 91, 3) := by decide +kernel
theorem dX16_addExternal_113 : decode cX16_addExternal 113 = .ok (.aload_n 0, 1) := by decide +kernel
theorem dX16_addExternal_114 : decode cX16_addExternal 114 = .ok (.getfield 182, 3) := by decide +kernel
theorem dX16_addExternal_117 : decode cX16_addExternal 117 = .ok (.iconst 1, 1) := by decide +kernel
theorem dX16_addExternal_118 : decode cX16_addExternal 118 = .ok (.isub, 1) := by decide +kernel
theorem dX16_addExternal_119 : decode cX16_addExternal 119 = .ok (.ireturn, 1) := by decide +kernel
theorem dX16_setExternal_0 : decode cX16_setExternal 0 = .ok (.aload_n 0, 1) := by decide +kernel
theorem dX16_setExternal_1 : decode cX16_setExternal 1 = .ok (.iconst 0, 1) := by decide +kernel
theorem dX16_setExternal_2 : decode cX16_setExternal 2 = .ok (.putfield 65, 3) := by decide +kernel
theorem dX16_setExternal_5 : decode cX16_setExternal 5 = .ok (.aload_n 0, 1) := by decide +kernel
theorem dX16_setExternal_6 : decode cX16_setExternal 6 = .ok (.iload_n 1, 1) := by decide +kernel
theorem dX16_setExternal_7 : decode cX16_setExternal 7 = .ok (.iconst 0, 1) := by decide +kernel
theorem dX16_setExternal_8 : decode cX16_setExternal 8 = .ok (.aload_n 0, 1) := by decide +kernel
theorem dX16_setExternal_9 : decode cX16_setExternal 9 = .ok (.getfield 182, 3) := by decide +kernel
theorem dX16_setExternal_12 : decode cX16_setExternal 12 = .ok (.iconst 1, 1) := by decide +kernel
theorem dX16_setExternal_13 : decode cX16_setExternal 13 = .ok (.isub, 1) := by decide +kernel
theorem dX16_setExternal_14 : decode cX16_setExternal 14 = .ok (.invokestatic 72, 3) := by decide +kernel
theorem dX16_setExternal_17 : decode cX16_setExternal 17 = .ok (.ifCond .ne 7, 3) := by decide +kernel
theorem dX16_setExternal_20 : decode cX16_setExternal 20 = .ok (.iconst 1, 1) := by decide +kernel
theorem dX16_setExternal_21 : decode cX16_setExternal 21 = .ok (.goto 4, 3) := by decide +kernel
theorem dX16_setExternal_24 : decode cX16_setExternal 24 = .ok (.iconst 0, 1) := by decide +kernel
theorem dX16_setExternal_25 : decode cX16_setExternal 25 = .ok (.iconst 1, 1) := by decide +kernel
theorem dX16_setExternal_26 : decode cX16_setExternal 26 = .ok (.invokevirtual 87, 3) := by decide +kernel
theorem dX16_setExternal_29 : decode cX16_setExternal 29 = .ok (.ifCond .ne 64, 3) := by decide +kernel
theorem dX16_setExternal_32 : decode cX16_setExternal 32 = .ok (.aload_n 0, 1) := by decide +kernel
theorem dX16_setExternal_33 : decode cX16_setExternal 33 = .ok (.iload_n 2, 1) := by decide +kernel
theorem dX16_setExternal_34 : decode cX16_setExternal 34 = .ok (.bipush 116, 2) := by decide +kernel
theorem dX16_setExternal_36 : decode cX16_setExternal 36 = .ok (.if_icmp .eq 25, 3) := by decide +kernel
theorem dX16_setExternal_39 : decode cX16_setExternal 39 = .ok (.iload_n 2, 1) := by decide +kernel
theorem dX16_setExternal_40 : decode cX16_setExternal 40 = .ok (.bipush 102, 2) := by decide +kernel
theorem dX16_setExternal_42 : decode cX16_setExternal 42 = .ok (.if_icmp .eq 19, 3) := by decide +kernel
theorem dX16_setExternal_45 : decode cX16_setExternal 45 = .ok (.iload_n 2, 1) := by decide +kernel
theorem dX16_setExternal_46 : decode cX16_setExternal 46 = .ok (.bipush 117, 2) := by decide +kernel
theorem dX16_setExternal_48 : decode cX16_setExternal 48 = .ok (.if_icmp .eq 13, 3) := by decide +kernel
theorem dX16_setExternal_51 : decode cX16_setExternal 51 = .ok (.iload_n 2, 1) := by decide +kernel
theorem dX16_setExternal_52 : decode cX16_setExternal 52 = .ok (.bipush 114, 2) := by decide +kernel
theorem dX16_setExternal_54 : decode cX16_setExternal 54 = .ok (.if_icmp .eq 7, 3) := by decide +kernel
theorem dX16_setExternal_57 : decode cX16_setExternal 57 = .ok (.iconst 1, 1) := by decide +kernel
theorem dX16_setExternal_58 : decode cX16_setExternal 58 = .ok (.goto 4, 3) := by decide +kernel
theorem dX16_setExternal_61 : decode cX16_setExternal 61 = .ok (.iconst 0, 1) := by decide +kernel
theorem dX16_setExternal_62 : decode cX16_setExternal 62 = .ok (.iconst 2, 1) := by decide +kernel
theorem dX16_setExternal_63 : decode cX16_setExternal 63 = .ok (.invokevirtual 87, 3) := by decide +kernel
theorem dX16_setExternal_66 : decode cX16_setExternal 66 = .ok (.ifCond .ne 27, 3) := by decide +kernel
theorem dX16_setExternal_69 : decode cX16_setExternal 69 = .ok (.aload_n 0, 1) := by decide +kernel
theorem dX16_setExternal_70 : decode cX16_setExternal 70 = .ok (.aload_n 0, 1) := by decide +kernel
theorem dX16_setExternal_71 : decode cX16_setExternal 71 = .ok (.getfield 26, 3) := by decide +kernel
theorem dX16_setExternal_74 : decode cX16_setExternal 74 = .ok (.iload_n 1, 1) := by decide +kernel
theorem dX16_setExternal_75 : decode cX16_setExternal 75 = .ok (.caload, 1) := by decide +kernel
theorem dX16_setExternal_76 : decode cX16_setExternal 76 = .ok (.bipush 114, 2) := by decide +kernel
theorem dX16_setExternal_78 : decode cX16_setExternal 78 = .ok (.if_icmp .ne 7, 3) := by decide +kernel
theorem dX16_setExternal_81 : decode cX16_setExternal 81 = .ok (.iconst 1, 1) := by decide +kernel
theorem dX16_setExternal_82 : decode cX16_setExternal 82 = .ok (.goto 4, 3) := by decide +kernel
theorem dX16_setExternal_85 : decode cX16_setExternal 85 = .ok (.iconst 0, 1) := by decide +kernel
theorem dX16_setExternal_86 : decode cX16_setExternal 86 = .ok (.iconst 3, 1) := by decide +kernel
theorem dX16_setExternal_87 : decode cX16_setExternal 87 = .ok (.invokevirtual 87, 3) := by decide +kernel
theorem dX16_setExternal_90 : decode cX16_setExternal 90 = .ok (.ifCond .eq 5, 3) := by decide +kernel
theorem dX16_setExternal_93 : decode cX16_setExternal 93 = .ok (.iconst 0, 1) := by decide +kernel
theorem dX16_setExternal_94 : decode cX16_setExternal 94 = .ok (.ireturn, 1) := by decide +kernel
theorem dX16_setExternal_95 : decode cX16_setExternal 95 = .ok (.aload_n 0, 1) := by decide +kernel
theorem dX16_setExternal_96 : decode cX16_setExternal 96 = .ok (.getfield 26, 3) := by decide +kernel
theorem dX16_setExternal_99 : decode cX16_setExternal 99 = .ok (.iload_n 1, 1) := by decide +kernel
theorem dX16_setExternal_100 : decode cX16_setExternal 100 = .ok (.caload, 1) := by decide +kernel
theorem dX16_setExternal_101 : decode cX16_setExternal 101 = .ok (.istore_n 3, 1) := by decide +kernel
theorem dX16_setExternal_102 : decode cX16_setExternal 102 = .ok (.aload_n 0, 1) := by decide +kernel
theorem dX16_setExternal_103 : decode cX16_setExternal 103 = .ok (.getfield 26, 3) := by decide +kernel
theorem dX16_setExternal_106 : decode cX16_setExternal 106 = .ok (.iload_n 1, 1) := by decide +kernel
theorem dX16_setExternal_107 : decode cX16_setExternal 107 = .ok (.iload_n 2, 1) := by decide +kernel
theorem dX16_setExternal_108 : decode cX16_setExternal 108 = .ok (.castore, 1) := by decide +kernel
theorem dX16_setExternal_109 : decode cX16_setExternal 109 = .ok (.aload_n 0, 1) := by decide +kernel
theorem dX16_setExternal_110 : decode cX16_setExternal 110 = .ok (.invokevirtual 91, 3) := by decide +kernel
theorem dX16_setExternal_113 : decode cX16_setExternal 113 = .ok (.iload_n 3, 1) := by decide +kernel
theorem dX16_setExternal_114 : decode cX16_setExternal 114 = .ok (.ireturn, 1) := by decide +kernel
theorem dX16_assumptions_0 : decode cX16_assumptions 0 = .ok (.iconst 0, 1) := by decide +kernel
theorem dX16_assumptions_1 : decode cX16_assumptions 1 = .ok (.istore_n 1, 1) := by decide +kernel
theorem dX16_assumptions_2 : decode cX16_assumptions 2 = .ok (.iconst 0, 1) := by decide +kernel
theorem dX16_assumptions_3 : decode cX16_assumptions 3 = .ok (.istore_n 2, 1) := by decide +kernel
theorem dX16_assumptions_4 : decode cX16_assumptions 4 = .ok (.iload_n 2, 1) := by decide +kernel
theorem dX16_assumptions_5 : decode cX16_assumptions 5 = .ok (.sipush 384, 3) := by decide +kernel
theorem dX16_assumptions_8 : decode cX16_assumptions 8 = .ok (.if_icmp .ge 26, 3) := by decide +kernel
theorem dX16_assumptions_11 : decode cX16_assumptions 11 = .ok (.iload_n 1, 1) := by decide +kernel
theorem dX16_assumptions_12 : decode cX16_assumptions 12 = .ok (.aload_n 0, 1) := by decide +kernel
theorem dX16_assumptions_13 : decode cX16_assumptions 13 = .ok (.getfield 30, 3) := by decide +kernel
theorem dX16_assumptions_16 : decode cX16_assumptions 16 = .ok (.iload_n 2, 1) := by decide +kernel
theorem dX16_assumptions_17 : decode cX16_assumptions 17 = .ok (.iaload, 1) := by decide +kernel
theorem dX16_assumptions_18 : decode cX16_assumptions 18 = .ok (.ifCond .eq 7, 3) := by decide +kernel
theorem dX16_assumptions_21 : decode cX16_assumptions 21 = .ok (.iconst 1, 1) := by decide +kernel
theorem dX16_assumptions_22 : decode cX16_assumptions 22 = .ok (.goto 4, 3) := by decide +kernel
theorem dX16_assumptions_25 : decode cX16_assumptions 25 = .ok (.iconst 0, 1) := by decide +kernel
theorem dX16_assumptions_26 : decode cX16_assumptions 26 = .ok (.iadd, 1) := by decide +kernel
theorem dX16_assumptions_27 : decode cX16_assumptions 27 = .ok (.istore_n 1, 1) := by decide +kernel
theorem dX16_assumptions_28 : decode cX16_assumptions 28 = .ok (.iinc 2 1, 3) := by decide +kernel
theorem dX16_assumptions_31 : decode cX16_assumptions 31 = .ok (.goto (-27), 3) := by decide +kernel
theorem dX16_assumptions_34 : decode cX16_assumptions 34 = .ok (.iload_n 1, 1) := by decide +kernel
theorem dX16_assumptions_35 : decode cX16_assumptions 35 = .ok (.ireturn, 1) := by decide +kernel
theorem dX16_assume_0 : decode cX16_assume 0 = .ok (.aload_n 0, 1) := by decide +kernel
theorem dX16_assume_1 : decode cX16_assume 1 = .ok (.iconst 0, 1) := by decide +kernel
theorem dX16_assume_2 : decode cX16_assume 2 = .ok (.putfield 65, 3) := by decide +kernel
theorem dX16_assume_5 : decode cX16_assume 5 = .ok (.aload_n 0, 1) := by decide +kernel
theorem dX16_assume_6 : decode cX16_assume 6 = .ok (.aload_n 0, 1) := by decide +kernel
theorem dX16_assume_7 : decode cX16_assume 7 = .ok (.iload_n 1, 1) := by decide +kernel
theorem dX16_assume_8 : decode cX16_assume 8 = .ok (.invokevirtual 106, 3) := by decide +kernel
theorem dX16_assume_11 : decode cX16_assume 11 = .ok (.iconst 1, 1) := by decide +kernel
theorem dX16_assume_12 : decode cX16_assume 12 = .ok (.invokevirtual 87, 3) := by decide +kernel
theorem dX16_assume_15 : decode cX16_assume 15 = .ok (.ifCond .ne 18, 3) := by decide +kernel
theorem dX16_assume_18 : decode cX16_assume 18 = .ok (.aload_n 0, 1) := by decide +kernel
theorem dX16_assume_19 : decode cX16_assume 19 = .ok (.aload_n 0, 1) := by decide +kernel
theorem dX16_assume_20 : decode cX16_assume 20 = .ok (.iload_n 1, 1) := by decide +kernel
theorem dX16_assume_21 : decode cX16_assume 21 = .ok (.iload_n 2, 1) := by decide +kernel
theorem dX16_assume_22 : decode cX16_assume 22 = .ok (.iload_n 3, 1) := by decide +kernel
theorem dX16_assume_23 : decode cX16_assume 23 = .ok (.invokevirtual 185, 3) := by decide +kernel
theorem dX16_assume_26 : decode cX16_assume 26 = .ok (.iconst 2, 1) := by decide +kernel
theorem dX16_assume_27 : decode cX16_assume 27 = .ok (.invokevirtual 87, 3) := by decide +kernel
theorem dX16_assume_30 : decode cX16_assume 30 = .ok (.ifCond .eq 5, 3) := by decide +kernel
theorem dX16_assume_33 : decode cX16_assume 33 = .ok (.iconst 0, 1) := by decide +kernel
theorem dX16_assume_34 : decode cX16_assume 34 = .ok (.ireturn, 1) := by decide +kernel
theorem dX16_assume_35 : decode cX16_assume 35 = .ok (.aload_n 0, 1) := by decide +kernel
theorem dX16_assume_36 : decode cX16_assume 36 = .ok (.getfield 30, 3) := by decide +kernel
theorem dX16_assume_39 : decode cX16_assume 39 = .ok (.aload_n 0, 1) := by decide +kernel
theorem dX16_assume_40 : decode cX16_assume 40 = .ok (.iload_n 1, 1) := by decide +kernel
theorem dX16_assume_41 : decode cX16_assume 41 = .ok (.iload_n 2, 1) := by decide +kernel
theorem dX16_assume_42 : decode cX16_assume 42 = .ok (.iload_n 3, 1) := by decide +kernel
theorem dX16_assume_43 : decode cX16_assume 43 = .ok (.invokevirtual 188, 3) := by decide +kernel
theorem dX16_assume_46 : decode cX16_assume 46 = .ok (.iload 4, 2) := by decide +kernel
theorem dX16_assume_48 : decode cX16_assume 48 = .ok (.ifCond .eq 7, 3) := by decide +kernel
theorem dX16_assume_51 : decode cX16_assume 51 = .ok (.iconst 1, 1) := by decide +kernel
theorem dX16_assume_52 : decode cX16_assume 52 = .ok (.goto 4, 3) := by decide +kernel
theorem dX16_assume_55 : decode cX16_assume 55 = .ok (.iconst 2, 1) := by decide +kernel
theorem dX16_assume_56 : decode cX16_assume 56 = .ok (.iastore, 1) := by decide +kernel
theorem dX16_assume_57 : decode cX16_assume 57 = .ok (.aload_n 0, 1) := by decide +kernel
theorem dX16_assume_58 : decode cX16_assume 58 = .ok (.iconst 0, 1) := by decide +kernel
theorem dX16_assume_59 : decode cX16_assume 59 = .ok (.putfield 84, 3) := by decide +kernel
theorem dX16_assume_62 : decode cX16_assume 62 = .ok (.aload_n 0, 1) := by decide +kernel
theorem dX16_assume_63 : decode cX16_assume 63 = .ok (.invokevirtual 195, 3) := by decide +kernel
theorem dX16_assume_66 : decode cX16_assume 66 = .ok (.ireturn, 1) := by decide +kernel
theorem dX16_dropAssumptions_0 : decode cX16_dropAssumptions 0 = .ok (.aload_n 0, 1) := by decide +kernel
theorem dX16_dropAssumptions_1 : decode cX16_dropAssumptions 1 = .ok (.iconst 0, 1) := by decide +kernel
theorem dX16_dropAssumptions_2 : decode cX16_dropAssumptions 2 = .ok (.putfield 65, 3) := by decide +kernel
theorem dX16_dropAssumptions_5 : decode cX16_dropAssumptions 5 = .ok (.aload_n 0, 1) := by decide +kernel
theorem dX16_dropAssumptions_6 : decode cX16_dropAssumptions 6 = .ok (.invokevirtual 195, 3) := by decide +kernel
theorem dX16_dropAssumptions_9 : decode cX16_dropAssumptions 9 = .ok (.istore_n 1, 1) := by decide +kernel
theorem dX16_dropAssumptions_10 : decode cX16_dropAssumptions 10 = .ok (.iconst 0, 1) := by decide +kernel
theorem dX16_dropAssumptions_11 : decode cX16_dropAssumptions 11 = .ok (.istore_n 2, 1) := by decide +kernel
theorem dX16_dropAssumptions_12 : decode cX16_dropAssumptions 12 = .ok (.iload_n 2, 1) := by decide +kernel
theorem dX16_dropAssumptions_13 : decode cX16_dropAssumptions 13 = .ok (.sipush 384, 3) := by decide +kernel
theorem dX16_dropAssumptions_16 : decode cX16_dropAssumptions 16 = .ok (.if_icmp .ge 16, 3) := by decide +kernel
theorem dX16_dropAssumptions_19 : decode cX16_dropAssumptions 19 = .ok (.aload_n 0, 1) := by decide +kernel
theorem dX16_dropAssumptions_20 : decode cX16_dropAssumptions 20 = .ok (.getfield 30, 3) := by decide +kernel
theorem dX16_dropAssumptions_23 : decode cX16_dropAssumptions 23 = .ok (.iload_n 2, 1) := by decide +kernel
theorem dX16_dropAssumptions_24 : decode cX16_dropAssumptions 24 = .ok (.iconst 0, 1) := by decide +kernel
theorem dX16_dropAssumptions_25 : decode cX16_dropAssumptions 25 = .ok (.iastore, 1) := by decide +kernel
theorem dX16_dropAssumptions_26 : decode cX16_dropAssumptions 26 = .ok (.iinc 2 1, 3) := by decide +kernel
theorem dX16_dropAssumptions_29 : decode cX16_dropAssumptions 29 = .ok (.goto (-17), 3) := by decide +kernel
theorem dX16_dropAssumptions_32 : decode cX16_dropAssumptions 32 = .ok (.aload_n 0, 1) := by decide +kernel
theorem dX16_dropAssumptions_33 : decode cX16_dropAssumptions 33 = .ok (.iconst 0, 1) := by decide +kernel
theorem dX16_dropAssumptions_34 : decode cX16_dropAssumptions 34 = .ok (.putfield 84, 3) := by decide +kernel
theorem dX16_dropAssumptions_37 : decode cX16_dropAssumptions 37 = .ok (.iload_n 1, 1) := by decide +kernel
theorem dX16_dropAssumptions_38 : decode cX16_dropAssumptions 38 = .ok (.ireturn, 1) := by decide +kernel
theorem dX16_state_0 : decode cX16_state 0 = .ok (.aload_n 0, 1) := by decide +kernel
theorem dX16_state_1 : decode cX16_state 1 = .ok (.iconst 0, 1) := by decide +kernel
theorem dX16_state_2 : decode cX16_state 2 = .ok (.putfield 65, 3) := by decide +kernel
theorem dX16_state_5 : decode cX16_state 5 = .ok (.aload_n 0, 1) := by decide +kernel
theorem dX16_state_6 : decode cX16_state 6 = .ok (.aload_n 0, 1) := by decide +kernel
theorem dX16_state_7 : decode cX16_state 7 = .ok (.iload_n 1, 1) := by decide +kernel
theorem dX16_state_8 : decode cX16_state 8 = .ok (.invokevirtual 106, 3) := by decide +kernel
theorem dX16_state_11 : decode cX16_state 11 = .ok (.iconst 1, 1) := by decide +kernel
theorem dX16_state_12 : decode cX16_state 12 = .ok (.invokevirtual 87, 3) := by decide +kernel
theorem dX16_state_15 : decode cX16_state 15 = .ok (.ifCond .ne 18, 3) := by decide +kernel
theorem dX16_state_18 : decode cX16_state 18 = .ok (.aload_n 0, 1) := by decide +kernel
theorem dX16_state_19 : decode cX16_state 19 = .ok (.aload_n 0, 1) := by decide +kernel
theorem dX16_state_20 : decode cX16_state 20 = .ok (.iload_n 1, 1) := by decide +kernel
theorem dX16_state_21 : decode cX16_state 21 = .ok (.iload_n 2, 1) := by decide +kernel
theorem dX16_state_22 : decode cX16_state 22 = .ok (.iload_n 3, 1) := by decide +kernel
theorem dX16_state_23 : decode cX16_state 23 = .ok (.invokevirtual 185, 3) := by decide +kernel
theorem dX16_state_26 : decode cX16_state 26 = .ok (.iconst 2, 1) := by decide +kernel
theorem dX16_state_27 : decode cX16_state 27 = .ok (.invokevirtual 87, 3) := by decide +kernel
theorem dX16_state_30 : decode cX16_state 30 = .ok (.ifCond .eq 5, 3) := by decide +kernel
theorem dX16_state_33 : decode cX16_state 33 = .ok (.iconst 0, 1) := by decide +kernel
theorem dX16_state_34 : decode cX16_state 34 = .ok (.ireturn, 1) := by decide +kernel
theorem dX16_state_35 : decode cX16_state 35 = .ok (.aload_n 0, 1) := by decide +kernel
theorem dX16_state_36 : decode cX16_state 36 = .ok (.invokevirtual 306, 3) := by decide +kernel
theorem dX16_state_39 : decode cX16_state 39 = .ok (.aload_n 0, 1) := by decide +kernel
theorem dX16_state_40 : decode cX16_state 40 = .ok (.iload_n 1, 1) := by decide +kernel
theorem dX16_state_41 : decode cX16_state 41 = .ok (.iload_n 2, 1) := by decide +kernel
theorem dX16_state_42 : decode cX16_state 42 = .ok (.iload_n 3, 1) := by decide +kernel
theorem dX16_state_43 : decode cX16_state 43 = .ok (.invokevirtual 188, 3) := by decide +kernel
theorem dX16_state_46 : decode cX16_state 46 = .ok (.istore 4, 2) := by decide +kernel
theorem dX16_state_48 : decode cX16_state 48 = .ok (.aload_n 0, 1) := by decide +kernel
theorem dX16_state_49 : decode cX16_state 49 = .ok (.getfield 33, 3) := by decide +kernel
theorem dX16_state_52 : decode cX16_state 52 = .ok (.iload 4, 2) := by decide +kernel
theorem dX16_state_54 : decode cX16_state 54 = .ok (.baload, 1) := by decide +kernel
theorem dX16_state_55 : decode cX16_state 55 = .ok (.ifCond .eq 8, 3) := by decide +kernel
theorem dX16_state_58 : decode cX16_state 58 = .ok (.bipush 115, 2) := by decide +kernel
theorem dX16_state_60 : decode cX16_state 60 = .ok (.goto 20, 3) := by decide +kernel
theorem dX16_state_63 : decode cX16_state 63 = .ok (.aload_n 0, 1) := by decide +kernel
theorem dX16_state_64 : decode cX16_state 64 = .ok (.getfield 37, 3) := by decide +kernel
theorem dX16_state_67 : decode cX16_state 67 = .ok (.iload 4, 2) := by decide +kernel
theorem dX16_state_69 : decode cX16_state 69 = .ok (.baload, 1) := by decide +kernel
theorem dX16_state_70 : decode cX16_state 70 = .ok (.ifCond .eq 8, 3) := by decide +kernel
theorem dX16_state_73 : decode cX16_state 73 = .ok (.bipush 111, 2) := by decide +kernel
theorem dX16_state_75 : decode cX16_state 75 = .ok (.goto 5, 3) := by decide +kernel
theorem dX16_state_78 : decode cX16_state 78 = .ok (.bipush 110, 2) := by decide +kernel
theorem dX16_state_80 : decode cX16_state 80 = .ok (.ireturn, 1) := by decide +kernel
theorem dX16_instances_0 : decode cX16_instances 0 = .ok (.aload_n 0, 1) := by decide +kernel
theorem dX16_instances_1 : decode cX16_instances 1 = .ok (.iconst 0, 1) := by decide +kernel
theorem dX16_instances_2 : decode cX16_instances 2 = .ok (.putfield 65, 3) := by decide +kernel
theorem dX16_instances_5 : decode cX16_instances 5 = .ok (.aload_n 0, 1) := by decide +kernel
theorem dX16_instances_6 : decode cX16_instances 6 = .ok (.aload_n 0, 1) := by decide +kernel
theorem dX16_instances_7 : decode cX16_instances 7 = .ok (.iload_n 1, 1) := by decide +kernel
theorem dX16_instances_8 : decode cX16_instances 8 = .ok (.invokevirtual 128, 3) := by decide +kernel
theorem dX16_instances_11 : decode cX16_instances 11 = .ok (.iconst 1, 1) := by decide +kernel
theorem dX16_instances_12 : decode cX16_instances 12 = .ok (.invokevirtual 87, 3) := by decide +kernel
theorem dX16_instances_15 : decode cX16_instances 15 = .ok (.ifCond .eq 5, 3) := by decide +kernel
theorem dX16_instances_18 : decode cX16_instances 18 = .ok (.iconst 0, 1) := by decide +kernel
theorem dX16_instances_19 : decode cX16_instances 19 = .ok (.ireturn, 1) := by decide +kernel
theorem dX16_instances_20 : decode cX16_instances 20 = .ok (.aload_n 0, 1) := by decide +kernel
theorem dX16_instances_21 : decode cX16_instances 21 = .ok (.invokevirtual 306, 3) := by decide +kernel
theorem dX16_instances_24 : decode cX16_instances 24 = .ok (.aload_n 0, 1) := by decide +kernel
theorem dX16_instances_25 : decode cX16_instances 25 = .ok (.getfield 40, 3) := by decide +kernel
theorem dX16_instances_28 : decode cX16_instances 28 = .ok (.iload_n 1, 1) := by decide +kernel
theorem dX16_instances_29 : decode cX16_instances 29 = .ok (.iaload, 1) := by decide +kernel
theorem dX16_instances_30 : decode cX16_instances 30 = .ok (.ireturn, 1) := by decide +kernel
theorem dX16_has__0 : decode cX16_has_ 0 = .ok (.aload_n 0, 1) := by decide +kernel
theorem dX16_has__1 : decode cX16_has_ 1 = .ok (.iconst 0, 1) := by decide +kernel
theorem dX16_has__2 : decode cX16_has_ 2 = .ok (.putfield 65, 3) := by decide +kernel
theorem dX16_has__5 : decode cX16_has_ 5 = .ok (.aload_n 0, 1) := by decide +kernel
theorem dX16_has__6 : decode cX16_has_ 6 = .ok (.aload_n 0, 1) := by decide +kernel
theorem dX16_has__7 : decode cX16_has_ 7 = .ok (.getfield 84, 3) := by decide +kernel
theorem dX16_has__10 : decode cX16_has_ 10 = .ok (.ifCond .ne 7, 3) := by decide +kernel
theorem dX16_has__13 : decode cX16_has_ 13 = .ok (.iconst 1, 1) := by decide +kernel
theorem dX16_has__14 : decode cX16_has_ 14 = .ok (.goto 4, 3) := by decide +kernel
theorem dX16_has__17 : decode cX16_has_ 17 = .ok (.iconst 0, 1) := by decide +kernel
theorem dX16_has__18 : decode cX16_has_ 18 = .ok (.iconst 1, 1) := by decide +kernel
theorem dX16_has__19 : decode cX16_has_ 19 = .ok (.invokevirtual 87, 3) := by decide +kernel
theorem dX16_has__22 : decode cX16_has_ 22 = .ok (.ifCond .ne 68, 3) := by decide +kernel
theorem dX16_has__25 : decode cX16_has_ 25 = .ok (.aload_n 0, 1) := by decide +kernel
theorem dX16_has__26 : decode cX16_has_ 26 = .ok (.aload_n 0, 1) := by decide +kernel
theorem dX16_has__27 : decode cX16_has_ 27 = .ok (.iload_n 1, 1) := by decide +kernel
theorem dX16_has__28 : decode cX16_has_ 28 = .ok (.invokevirtual 371, 3) := by decide +kernel
theorem dX16_has__31 : decode cX16_has_ 31 = .ok (.ifCond .ne 11, 3) := by decide +kernel
theorem dX16_has__34 : decode cX16_has_ 34 = .ok (.aload_n 0, 1) := by decide +kernel
theorem dX16_has__35 : decode cX16_has_ 35 = .ok (.iload_n 2, 1) := by decide +kernel
theorem dX16_has__36 : decode cX16_has_ 36 = .ok (.invokevirtual 106, 3) := by decide +kernel
theorem dX16_has__39 : decode cX16_has_ 39 = .ok (.ifCond .eq 7, 3) := by decide +kernel
theorem dX16_has__42 : decode cX16_has_ 42 = .ok (.iconst 1, 1) := by decide +kernel
theorem dX16_has__43 : decode cX16_has_ 43 = .ok (.goto 4, 3) := by decide +kernel
theorem dX16_has__46 : decode cX16_has_ 46 = .ok (.iconst 0, 1) := by decide +kernel
theorem dX16_has__47 : decode cX16_has_ 47 = .ok (.iconst 2, 1) := by decide +kernel
theorem dX16_has__48 : decode cX16_has_ 48 = .ok (.invokevirtual 87, 3) := by decide +kernel
theorem dX16_has__51 : decode cX16_has_ 51 = .ok (.ifCond .ne 39, 3) := by decide +kernel
theorem dX16_has__54 : decode cX16_has_ 54 = .ok (.aload_n 0, 1) := by decide +kernel
theorem dX16_has__55 : decode cX16_has_ 55 = .ok (.aload_n 0, 1) := by decide +kernel
theorem dX16_has__56 : decode cX16_has_ 56 = .ok (.iload_n 2, 1) := by decide +kernel
theorem dX16_has__57 : decode cX16_has_ 57 = .ok (.iload_n 3, 1) := by decide +kernel
theorem dX16_has__58 : decode cX16_has_ 58 = .ok (.iload 4, 2) := by decide +kernel
theorem dX16_has__60 : decode cX16_has_ 60 = .ok (.invokevirtual 185, 3) := by decide +kernel
theorem dX16_has__63 : decode cX16_has_ 63 = .ok (.iconst 3, 1) := by decide +kernel
theorem dX16_has__64 : decode cX16_has_ 64 = .ok (.invokevirtual 87, 3) := by decide +kernel
theorem dX16_has__67 : decode cX16_has_ 67 = .ok (.ifCond .ne 23, 3) := by decide +kernel
theorem dX16_has__70 : decode cX16_has_ 70 = .ok (.aload_n 0, 1) := by decide +kernel
theorem dX16_has__71 : decode cX16_has_ 71 = .ok (.iload_n 1, 1) := by decide +kernel
theorem dX16_has__72 : decode cX16_has_ 72 = .ok (.aload_n 0, 1) := by decide +kernel
theorem dX16_has__73 : decode cX16_has_ 73 = .ok (.iload_n 2, 1) := by decide +kernel
theorem dX16_has__74 : decode cX16_has_ 74 = .ok (.iload_n 3, 1) := by decide +kernel
theorem dX16_has__75 : decode cX16_has_ 75 = .ok (.iload 4, 2) := by decide +kernel
theorem dX16_has__77 : decode cX16_has_ 77 = .ok (.invokevirtual 188, 3) := by decide +kernel
theorem dX16_has__80 : decode cX16_has_ 80 = .ok (.invokevirtual 374, 3) := by decide +kernel
theorem dX16_has__83 : decode cX16_has_ 83 = .ok (.ifCond .eq 7, 3) := by decide +kernel
theorem dX16_has__86 : decode cX16_has_ 86 = .ok (.iconst 1, 1) := by decide +kernel
theorem dX16_has__87 : decode cX16_has_ 87 = .ok (.goto 4, 3) := by decide +kernel
theorem dX16_has__90 : decode cX16_has_ 90 = .ok (.iconst 0, 1) := by decide +kernel
theorem dX16_has__91 : decode cX16_has_ 91 = .ok (.ireturn, 1) := by decide +kernel
theorem dX16_size_0 : decode cX16_size 0 = .ok (.aload_n 0, 1) := by decide +kernel
theorem dX16_size_1 : decode cX16_size 1 = .ok (.iconst 0, 1) := by decide +kernel
theorem dX16_size_2 : decode cX16_size 2 = .ok (.putfield 65, 3) := by decide +kernel
theorem dX16_size_5 : decode cX16_size 5 = .ok (.aload_n 0, 1) := by decide +kernel
theorem dX16_size_6 : decode cX16_size 6 = .ok (.aload_n 0, 1) := by decide +kernel
theorem dX16_size_7 : decode cX16_size 7 = .ok (.getfield 84, 3) := by decide +kernel
theorem dX16_size_10 : decode cX16_size 10 = .ok (.ifCond .ne 7, 3) := by decide +kernel
theorem dX16_size_13 : decode cX16_size 13 = .ok (.iconst 1, 1) := by decide +kernel
theorem dX16_size_14 : decode cX16_size 14 = .ok (.goto 4, 3) := by decide +kernel
theorem dX16_size_17 : decode cX16_size 17 = .ok (.iconst 0, 1) := by decide +kernel
theorem dX16_size_18 : decode cX16_size 18 = .ok (.iconst 1, 1) := by decide +kernel
theorem dX16_size_19 : decode cX16_size 19 = .ok (.invokevirtual 87, 3) := by decide +kernel
theorem dX16_size_22 : decode cX16_size 22 = .ok (.ifCond .ne 16, 3) := by decide +kernel
theorem dX16_size_25 : decode cX16_size 25 = .ok (.aload_n 0, 1) := by decide +kernel
theorem dX16_size_26 : decode cX16_size 26 = .ok (.aload_n 0, 1) := by decide +kernel
theorem dX16_size_27 : decode cX16_size 27 = .ok (.iload_n 1, 1) := by decide +kernel
theorem dX16_size_28 : decode cX16_size 28 = .ok (.invokevirtual 371, 3) := by decide +kernel
theorem dX16_size_31 : decode cX16_size 31 = .ok (.iconst 2, 1) := by decide +kernel
theorem dX16_size_32 : decode cX16_size 32 = .ok (.invokevirtual 87, 3) := by decide +kernel
theorem dX16_size_35 : decode cX16_size 35 = .ok (.ifCond .eq 7, 3) := by decide +kernel
theorem dX16_size_38 : decode cX16_size 38 = .ok (.iconst 0, 1) := by decide +kernel
theorem dX16_size_39 : decode cX16_size 39 = .ok (.goto 25, 3) := by decide +kernel
theorem dX16_size_42 : decode cX16_size 42 = .ok (.aload_n 0, 1) := by decide +kernel
theorem dX16_size_43 : decode cX16_size 43 = .ok (.invokevirtual 377, 3) := by decide +kernel
theorem dX16_size_46 : decode cX16_size 46 = .ok (.aload_n 0, 1) := by decide +kernel
theorem dX16_size_47 : decode cX16_size 47 = .ok (.getfield 59, 3) := by decide +kernel
theorem dX16_size_50 : decode cX16_size 50 = .ok (.iload_n 1, 1) := by decide +kernel
theorem dX16_size_51 : decode cX16_size 51 = .ok (.invokevirtual 134, 3) := by decide +kernel
theorem dX16_size_54 : decode cX16_size 54 = .ok (.checkcast 335, 3) := by decide +kernel
theorem dX16_size_57 : decode cX16_size 57 = .ok (.getfield 368, 3) := by decide +kernel
theorem dX16_size_60 : decode cX16_size 60 = .ok (.invokestatic 321, 3) := by decide +kernel
theorem dX16_size_63 : decode cX16_size 63 = .ok (.iadd, 1) := by decide +kernel
theorem dX16_size_64 : decode cX16_size 64 = .ok (.ireturn, 1) := by decide +kernel
theorem dX16_cost_0 : decode cX16_cost 0 = .ok (.aload_n 0, 1) := by decide +kernel
theorem dX16_cost_1 : decode cX16_cost 1 = .ok (.iconst 0, 1) := by decide +kernel
theorem dX16_cost_2 : decode cX16_cost 2 = .ok (.putfield 65, 3) := by decide +kernel
theorem dX16_cost_5 : decode cX16_cost 5 = .ok (.aload_n 0, 1) := by decide +kernel
theorem dX16_cost_6 : decode cX16_cost 6 = .ok (.aload_n 0, 1) := by decide +kernel
theorem dX16_cost_7 : decode cX16_cost 7 = .ok (.getfield 84, 3) := by decide +kernel
theorem dX16_cost_10 : decode cX16_cost 10 = .ok (.ifCond .ne 7, 3) := by decide +kernel
theorem dX16_cost_13 : decode cX16_cost 13 = .ok (.iconst 1, 1) := by decide +kernel
theorem dX16_cost_14 : decode cX16_cost 14 = .ok (.goto 4, 3) := by decide +kernel
theorem dX16_cost_17 : decode cX16_cost 17 = .ok (.iconst 0, 1) := by decide +kernel
theorem dX16_cost_18 : decode cX16_cost 18 = .ok (.iconst 1, 1) := by decide +kernel
theorem dX16_cost_19 : decode cX16_cost 19 = .ok (.invokevirtual 87, 3) := by decide +kernel
theorem dX16_cost_22 : decode cX16_cost 22 = .ok (.ifCond .ne 38, 3) := by decide +kernel
theorem dX16_cost_25 : decode cX16_cost 25 = .ok (.aload_n 0, 1) := by decide +kernel
theorem dX16_cost_26 : decode cX16_cost 26 = .ok (.aload_n 0, 1) := by decide +kernel
theorem dX16_cost_27 : decode cX16_cost 27 = .ok (.iload_n 1, 1) := by decide +kernel
theorem dX16_cost_28 : decode cX16_cost 28 = .ok (.invokevirtual 371, 3) := by decide +kernel
theorem dX16_cost_31 : decode cX16_cost 31 = .ok (.iconst 2, 1) := by decide +kernel
theorem dX16_cost_32 : decode cX16_cost 32 = .ok (.invokevirtual 87, 3) := by decide +kernel
theorem dX16_cost_35 : decode cX16_cost 35 = .ok (.ifCond .ne 25, 3) := by decide +kernel
theorem dX16_cost_38 : decode cX16_cost 38 = .ok (.aload_n 0, 1) := by decide +kernel
theorem dX16_cost_39 : decode cX16_cost 39 = .ok (.iload_n 2, 1) := by decide +kernel
theorem dX16_cost_40 : decode cX16_cost 40 = .ok (.iconst 1, 1) := by decide +kernel
theorem dX16_cost_41 : decode cX16_cost 41 = .ok (.iconst 3, 1) := by decide +kernel
theorem dX16_cost_42 : decode cX16_cost 42 = .ok (.invokestatic 72, 3) := by decide +kernel
theorem dX16_cost_45 : decode cX16_cost 45 = .ok (.ifCond .ne 7, 3) := by decide +kernel
theorem dX16_cost_48 : decode cX16_cost 48 = .ok (.iconst 1, 1) := by decide +kernel
theorem dX16_cost_49 : decode cX16_cost 49 = .ok (.goto 4, 3) := by decide +kernel
theorem dX16_cost_52 : decode cX16_cost 52 = .ok (.iconst 0, 1) := by decide +kernel
theorem dX16_cost_53 : decode cX16_cost 53 = .ok (.iconst 3, 1) := by decide +kernel
theorem dX16_cost_54 : decode cX16_cost 54 = .ok (.invokevirtual 87, 3) := by decide +kernel
theorem dX16_cost_57 : decode cX16_cost 57 = .ok (.ifCond .eq 7, 3) := by decide +kernel
theorem dX16_cost_60 : decode cX16_cost 60 = .ok (.lconst 0, 1) := by decide +kernel
theorem dX16_cost_61 : decode cX16_cost 61 = .ok (.goto 19, 3) := by decide +kernel
theorem dX16_cost_64 : decode cX16_cost 64 = .ok (.aload_n 0, 1) := by decide +kernel
theorem dX16_cost_65 : decode cX16_cost 65 = .ok (.getfield 59, 3) := by decide +kernel
theorem dX16_cost_68 : decode cX16_cost 68 = .ok (.iload_n 1, 1) := by decide +kernel
theorem dX16_cost_69 : decode cX16_cost 69 = .ok (.invokevirtual 134, 3) := by decide +kernel
theorem dX16_cost_72 : decode cX16_cost 72 = .ok (.checkcast 335, 3) := by decide +kernel
theorem dX16_cost_75 : decode cX16_cost 75 = .ok (.getfield 340, 3) := by decide +kernel
theorem dX16_cost_78 : decode cX16_cost 78 = .ok (.iload_n 2, 1) := by decide +kernel
theorem dX16_cost_79 : decode cX16_cost 79 = .ok (.laload, 1) := by decide +kernel
theorem dX16_cost_80 : decode cX16_cost 80 = .ok (.lreturn, 1) := by decide +kernel
theorem dX16_best_0 : decode cX16_best 0 = .ok (.aload_n 0, 1) := by decide +kernel
theorem dX16_best_1 : decode cX16_best 1 = .ok (.iconst 0, 1) := by decide +kernel
theorem dX16_best_2 : decode cX16_best 2 = .ok (.putfield 65, 3) := by decide +kernel
theorem dX16_best_5 : decode cX16_best 5 = .ok (.aload_n 0, 1) := by decide +kernel
theorem dX16_best_6 : decode cX16_best 6 = .ok (.aload_n 0, 1) := by decide +kernel
theorem dX16_best_7 : decode cX16_best 7 = .ok (.getfield 84, 3) := by decide +kernel
theorem dX16_best_10 : decode cX16_best 10 = .ok (.ifCond .ne 7, 3) := by decide +kernel
theorem dX16_best_13 : decode cX16_best 13 = .ok (.iconst 1, 1) := by decide +kernel
theorem dX16_best_14 : decode cX16_best 14 = .ok (.goto 4, 3) := by decide +kernel
theorem dX16_best_17 : decode cX16_best 17 = .ok (.iconst 0, 1) := by decide +kernel
theorem dX16_best_18 : decode cX16_best 18 = .ok (.iconst 1, 1) := by decide +kernel
theorem dX16_best_19 : decode cX16_best 19 = .ok (.invokevirtual 87, 3) := by decide +kernel
theorem dX16_best_22 : decode cX16_best 22 = .ok (.ifCond .eq 5, 3) := by decide +kernel
theorem dX16_best_25 : decode cX16_best 25 = .ok (.iconst 0, 1) := by decide +kernel
theorem dX16_best_26 : decode cX16_best 26 = .ok (.ireturn, 1) := by decide +kernel
theorem dX16_best_27 : decode cX16_best 27 = .ok (.iconst 0, 1) := by decide +kernel
theorem dX16_best_28 : decode cX16_best 28 = .ok (.istore_n 1, 1) := by decide +kernel
theorem dX16_best_29 : decode cX16_best 29 = .ok (.aload_n 0, 1) := by decide +kernel
theorem dX16_best_30 : decode cX16_best 30 = .ok (.getfield 59, 3) := by decide +kernel
theorem dX16_best_33 : decode cX16_best 33 = .ok (.invokevirtual 167, 3) := by decide +kernel
theorem dX16_best_36 : decode cX16_best 36 = .ok (.astore_n 2, 1) := by decide +kernel
theorem dX16_best_37 : decode cX16_best 37 = .ok (.aload_n 2, 1) := by decide +kernel
theorem dX16_best_38 : decode cX16_best 38 = .ok (.invokeinterface 171 1, 5) := by decide +kernel
theorem dX16_best_43 : decode cX16_best 43 = .ok (.ifCond .eq 91, 3) := by decide +kernel
theorem dX16_best_46 : decode cX16_best 46 = .ok (.aload_n 2, 1) := by decide +kernel
theorem dX16_best_47 : decode cX16_best 47 = .ok (.invokeinterface 177 1, 5) := by decide +kernel
theorem dX16_best_52 : decode cX16_best 52 = .ok (.checkcast 335, 3) := by decide +kernel
theorem dX16_best_55 : decode cX16_best 55 = .ok (.astore_n 3, 1) := by decide +kernel
theorem dX16_best_56 : decode cX16_best 56 = .ok (.aload_n 0, 1) := by decide +kernel
theorem dX16_best_57 : decode cX16_best 57 = .ok (.getfield 59, 3) := by decide +kernel
theorem dX16_best_60 : decode cX16_best 60 = .ok (.iconst 0, 1) := by decide +kernel
theorem dX16_best_61 : decode cX16_best 61 = .ok (.invokevirtual 134, 3) := by decide +kernel
theorem dX16_best_64 : decode cX16_best 64 = .ok (.checkcast 335, 3) := by decide +kernel
theorem dX16_best_67 : decode cX16_best 67 = .ok (.astore 4, 2) := by decide +kernel
theorem dX16_best_69 : decode cX16_best 69 = .ok (.iconst 1, 1) := by decide +kernel
theorem dX16_best_70 : decode cX16_best 70 = .ok (.istore 5, 2) := by decide +kernel
theorem dX16_best_72 : decode cX16_best 72 = .ok (.iconst 1, 1) := by decide +kernel
theorem dX16_best_73 : decode cX16_best 73 = .ok (.istore 6, 2) := by decide +kernel
theorem dX16_best_75 : decode cX16_best 75 = .ok (.iload 6, 2) := by decide +kernel
theorem dX16_best_77 : decode cX16_best 77 = .ok (.iconst 4, 1) := by decide +kernel
theorem dX16_best_78 : decode cX16_best 78 = .ok (.if_icmp .ge 40, 3) := by decide +kernel
theorem dX16_best_81 : decode cX16_best 81 = .ok (.iload 5, 2) := by decide +kernel
theorem dX16_best_83 : decode cX16_best 83 = .ok (.ifCond .eq 26, 3) := by decide +kernel
theorem dX16_best_86 : decode cX16_best 86 = .ok (.aload_n 3, 1) := by decide +kernel
theorem dX16_best_87 : decode cX16_best 87 = .ok (.getfield 340, 3) := by decide +kernel
theorem dX16_best_90 : decode cX16_best 90 = .ok (.iload 6, 2) := by decide +kernel
theorem dX16_best_92 : decode cX16_best 92 = .ok (.laload, 1) := by decide +kernel
theorem dX16_best_93 : decode cX16_best 93 = .ok (.aload 4, 2) := by decide +kernel
theorem dX16_best_95 : decode cX16_best 95 = .ok (.getfield 340, 3) := by decide +kernel
theorem dX16_best_98 : decode cX16_best 98 = .ok (.iload 6, 2) := by decide +kernel
theorem dX16_best_100 : decode cX16_best 100 = .ok (.laload, 1) := by decide +kernel
theorem dX16_best_101 : decode cX16_best 101 = .ok (.lcmp, 1) := by decide +kernel
theorem dX16_best_102 : decode cX16_best 102 = .ok (.ifCond .ne 7, 3) := by decide +kernel
theorem dX16_best_105 : decode cX16_best 105 = .ok (.iconst 1, 1) := by decide +kernel
theorem dX16_best_106 : decode cX16_best 106 = .ok (.goto 4, 3) := by decide +kernel
theorem dX16_best_109 : decode cX16_best 109 = .ok (.iconst 0, 1) := by decide +kernel
theorem dX16_best_110 : decode cX16_best 110 = .ok (.istore 5, 2) := by decide +kernel
theorem dX16_best_112 : decode cX16_best 112 = .ok (.iinc 6 1, 3) := by decide +kernel
theorem dX16_best_115 : decode cX16_best 115 = .ok (.goto (-40), 3) := by decide +kernel
theorem dX16_best_118 : decode cX16_best 118 = .ok (.iload_n 1, 1) := by decide +kernel
theorem dX16_best_119 : decode cX16_best 119 = .ok (.iload 5, 2) := by decide +kernel
theorem dX16_best_121 : decode cX16_best 121 = .ok (.ifCond .eq 7, 3) := by decide +kernel
theorem dX16_best_124 : decode cX16_best 124 = .ok (.iconst 1, 1) := by decide +kernel
theorem dX16_best_125 : decode cX16_best 125 = .ok (.goto 4, 3) := by decide +kernel
theorem dX16_best_128 : decode cX16_best 128 = .ok (.iconst 0, 1) := by decide +kernel
theorem dX16_best_129 : decode cX16_best 129 = .ok (.iadd, 1) := by decide +kernel
theorem dX16_best_130 : decode cX16_best 130 = .ok (.istore_n 1, 1) := by decide +kernel
theorem dX16_best_131 : decode cX16_best 131 = .ok (.goto (-94), 3) := by decide +kernel
theorem dX16_best_134 : decode cX16_best 134 = .ok (.iload_n 1, 1) := by decide +kernel
theorem dX16_best_135 : decode cX16_best 135 = .ok (.ireturn, 1) := by decide +kernel
theorem dX16_projected_0 : decode cX16_projected 0 = .ok (.aload_n 0, 1) := by decide +kernel
theorem dX16_projected_1 : decode cX16_projected 1 = .ok (.iconst 0, 1) := by decide +kernel
theorem dX16_projected_2 : decode cX16_projected 2 = .ok (.putfield 65, 3) := by decide +kernel
theorem dX16_projected_5 : decode cX16_projected 5 = .ok (.aload_n 0, 1) := by decide +kernel
theorem dX16_projected_6 : decode cX16_projected 6 = .ok (.aload_n 0, 1) := by decide +kernel
theorem dX16_projected_7 : decode cX16_projected 7 = .ok (.getfield 84, 3) := by decide +kernel
theorem dX16_projected_10 : decode cX16_projected 10 = .ok (.ifCond .ne 7, 3) := by decide +kernel
theorem dX16_projected_13 : decode cX16_projected 13 = .ok (.iconst 1, 1) := by decide +kernel
theorem dX16_projected_14 : decode cX16_projected 14 = .ok (.goto 4, 3) := by decide +kernel
theorem dX16_projected_17 : decode cX16_projected 17 = .ok (.iconst 0, 1) := by decide +kernel
theorem dX16_projected_18 : decode cX16_projected 18 = .ok (.iconst 1, 1) := by decide +kernel
theorem dX16_projected_19 : decode cX16_projected 19 = .ok (.invokevirtual 87, 3) := by decide +kernel
theorem dX16_projected_22 : decode cX16_projected 22 = .ok (.ifCond .ne 16, 3) := by decide +kernel
theorem dX16_projected_25 : decode cX16_projected 25 = .ok (.aload_n 0, 1) := by decide +kernel
theorem dX16_projected_26 : decode cX16_projected 26 = .ok (.aload_n 0, 1) := by decide +kernel
theorem dX16_projected_27 : decode cX16_projected 27 = .ok (.iload_n 1, 1) := by decide +kernel
theorem dX16_projected_28 : decode cX16_projected 28 = .ok (.invokevirtual 106, 3) := by decide +kernel
theorem dX16_projected_31 : decode cX16_projected 31 = .ok (.iconst 2, 1) := by decide +kernel
theorem dX16_projected_32 : decode cX16_projected 32 = .ok (.invokevirtual 87, 3) := by decide +kernel
theorem dX16_projected_35 : decode cX16_projected 35 = .ok (.ifCond .eq 5, 3) := by decide +kernel
theorem dX16_projected_38 : decode cX16_projected 38 = .ok (.iconst 0, 1) := by decide +kernel
theorem dX16_projected_39 : decode cX16_projected 39 = .ok (.ireturn, 1) := by decide +kernel
theorem dX16_projected_40 : decode cX16_projected 40 = .ok (.iconst 0, 1) := by decide +kernel
theorem dX16_projected_41 : decode cX16_projected 41 = .ok (.istore_n 2, 1) := by decide +kernel
theorem dX16_projected_42 : decode cX16_projected 42 = .ok (.iconst 0, 1) := by decide +kernel
theorem dX16_projected_43 : decode cX16_projected 43 = .ok (.istore_n 3, 1) := by decide +kernel
theorem dX16_projected_44 : decode cX16_projected 44 = .ok (.iload_n 3, 1) := by decide +kernel
theorem dX16_projected_45 : decode cX16_projected 45 = .ok (.aload_n 0, 1) := by decide +kernel
theorem dX16_projected_46 : decode cX16_projected 46 = .ok (.getfield 296, 3) := by decide +kernel
theorem dX16_projected_49 : decode cX16_projected 49 = .ok (.if_icmp .ge 32, 3) := by decide +kernel
theorem dX16_projected_52 : decode cX16_projected 52 = .ok (.iload_n 2, 1) := by decide +kernel
theorem dX16_projected_53 : decode cX16_projected 53 = .ok (.aload_n 0, 1) := by decide +kernel
theorem dX16_projected_54 : decode cX16_projected 54 = .ok (.getfield 46, 3) := by decide +kernel
theorem dX16_projected_57 : decode cX16_projected 57 = .ok (.iload_n 3, 1) := by decide +kernel
theorem dX16_projected_58 : decode cX16_projected 58 = .ok (.iaload, 1) := by decide +kernel
theorem dX16_projected_59 : decode cX16_projected 59 = .ok (.bipush 64, 2) := by decide +kernel
theorem dX16_projected_61 : decode cX16_projected 61 = .ok (.idiv, 1) := by decide +kernel
theorem dX16_projected_62 : decode cX16_projected 62 = .ok (.iload_n 1, 1) := by decide +kernel
theorem dX16_projected_63 : decode cX16_projected 63 = .ok (.if_icmp .ne 9, 3) := by decide +kernel
theorem dX16_projected_66 : decode cX16_projected 66 = .ok (.iconst 1, 1) := by decide +kernel
theorem dX16_projected_67 : decode cX16_projected 67 = .ok (.iload_n 3, 1) := by decide +kernel
theorem dX16_projected_68 : decode cX16_projected 68 = .ok (.ishl, 1) := by decide +kernel
theorem dX16_projected_69 : decode cX16_projected 69 = .ok (.goto 4, 3) := by decide +kernel
theorem dX16_projected_72 : decode cX16_projected 72 = .ok (.iconst 0, 1) := by decide +kernel
theorem dX16_projected_73 : decode cX16_projected 73 = .ok (.ior, 1) := by decide +kernel
theorem dX16_projected_74 : decode cX16_projected 74 = .ok (.istore_n 2, 1) := by decide +kernel
theorem dX16_projected_75 : decode cX16_projected 75 = .ok (.iinc 3 1, 3) := by decide +kernel
theorem dX16_projected_78 : decode cX16_projected 78 = .ok (.goto (-34), 3) := by decide +kernel
theorem dX16_projected_81 : decode cX16_projected 81 = .ok (.iconst 0, 1) := by decide +kernel
theorem dX16_projected_82 : decode cX16_projected 82 = .ok (.istore_n 3, 1) := by decide +kernel
theorem dX16_projected_83 : decode cX16_projected 83 = .ok (.iconst 0, 1) := by decide +kernel
theorem dX16_projected_84 : decode cX16_projected 84 = .ok (.istore 4, 2) := by decide +kernel
theorem dX16_projected_86 : decode cX16_projected 86 = .ok (.iload 4, 2) := by decide +kernel
theorem dX16_projected_88 : decode cX16_projected 88 = .ok (.aload_n 0, 1) := by decide +kernel
theorem dX16_projected_89 : decode cX16_projected 89 = .ok (.getfield 59, 3) := by decide +kernel
theorem dX16_projected_92 : decode cX16_projected 92 = .ok (.invokevirtual 76, 3) := by decide +kernel
theorem dX16_projected_95 : decode cX16_projected 95 = .ok (.if_icmp .ge 89, 3) := by decide +kernel
theorem dX16_projected_98 : decode cX16_projected 98 = .ok (.iconst 1, 1) := by decide +kernel
theorem dX16_projected_99 : decode cX16_projected 99 = .ok (.istore 5, 2) := by decide +kernel
theorem dX16_projected_101 : decode cX16_projected 101 = .ok (.iconst 0, 1) := by decide +kernel
theorem dX16_projected_102 : decode cX16_projected 102 = .ok (.istore 6, 2) := by decide +kernel
theorem dX16_projected_104 : decode cX16_projected 104 = .ok (.iload 6, 2) := by decide +kernel
theorem dX16_projected_106 : decode cX16_projected 106 = .ok (.iload 4, 2) := by decide +kernel
theorem dX16_projected_108 : decode cX16_projected 108 = .ok (.if_icmp .ge 57, 3) := by decide +kernel
theorem dX16_projected_111 : decode cX16_projected 111 = .ok (.iload 5, 2) := by decide +kernel
theorem dX16_projected_113 : decode cX16_projected 113 = .ok (.ifCond .eq 43, 3) := by decide +kernel
theorem dX16_projected_116 : decode cX16_projected 116 = .ok (.aload_n 0, 1) := by decide +kernel
theorem dX16_projected_117 : decode cX16_projected 117 = .ok (.getfield 59, 3) := by decide +kernel
theorem dX16_projected_120 : decode cX16_projected 120 = .ok (.iload 4, 2) := by decide +kernel
theorem dX16_projected_122 : decode cX16_projected 122 = .ok (.invokevirtual 134, 3) := by decide +kernel
theorem dX16_projected_125 : decode cX16_projected 125 = .ok (.checkcast 335, 3) := by decide +kernel
theorem dX16_projected_128 : decode cX16_projected 128 = .ok (.getfield 368, 3) := by decide +kernel
theorem dX16_projected_131 : decode cX16_projected 131 = .ok (.aload_n 0, 1) := by decide +kernel
theorem dX16_projected_132 : decode cX16_projected 132 = .ok (.getfield 59, 3) := by decide +kernel
theorem dX16_projected_135 : decode cX16_projected 135 = .ok (.iload 6, 2) := by decide +kernel
theorem dX16_projected_137 : decode cX16_projected 137 = .ok (.invokevirtual 134, 3) := by decide +kernel
theorem dX16_projected_140 : decode cX16_projected 140 = .ok (.checkcast 335, 3) := by decide +kernel
theorem dX16_projected_143 : decode cX16_projected 143 = .ok (.getfield 368, 3) := by decide +kernel
theorem dX16_projected_146 : decode cX16_projected 146 = .ok (.ixor, 1) := by decide +kernel
theorem dX16_projected_147 : decode cX16_projected 147 = .ok (.iload_n 2, 1) := by decide +kernel
theorem dX16_projected_148 : decode cX16_projected 148 = .ok (.iand, 1) := by decide +kernel
theorem dX16_projected_149 : decode cX16_projected 149 = .ok (.ifCond .eq 7, 3) := by decide +kernel
theorem dX16_projected_152 : decode cX16_projected 152 = .ok (.iconst 1, 1) := by decide +kernel
theorem dX16_projected_153 : decode cX16_projected 153 = .ok (.goto 4, 3) := by decide +kernel
theorem dX16_projected_156 : decode cX16_projected 156 = .ok (.iconst 0, 1) := by decide +kernel
theorem dX16_projected_157 : decode cX16_projected 157 = .ok (.istore 5, 2) := by decide +kernel
theorem dX16_projected_159 : decode cX16_projected 159 = .ok (.iinc 6 1, 3) := by decide +kernel
theorem dX16_projected_162 : decode cX16_projected 162 = .ok (.goto (-58), 3) := by decide +kernel
theorem dX16_projected_165 : decode cX16_projected 165 = .ok (.iload_n 3, 1) := by decide +kernel
theorem dX16_projected_166 : decode cX16_projected 166 = .ok (.iload 5, 2) := by decide +kernel
theorem dX16_projected_168 : decode cX16_projected 168 = .ok (.ifCond .eq 7, 3) := by decide +kernel
theorem dX16_projected_171 : decode cX16_projected 171 = .ok (.iconst 1, 1) := by decide +kernel
theorem dX16_projected_172 : decode cX16_projected 172 = .ok (.goto 4, 3) := by decide +kernel
theorem dX16_projected_175 : decode cX16_projected 175 = .ok (.iconst 0, 1) := by decide +kernel
theorem dX16_projected_176 : decode cX16_projected 176 = .ok (.iadd, 1) := by decide +kernel
theorem dX16_projected_177 : decode cX16_projected 177 = .ok (.istore_n 3, 1) := by decide +kernel
theorem dX16_projected_178 : decode cX16_projected 178 = .ok (.iinc 4 1, 3) := by decide +kernel
theorem dX16_projected_181 : decode cX16_projected 181 = .ok (.goto (-95), 3) := by decide +kernel
theorem dX16_projected_184 : decode cX16_projected 184 = .ok (.iload_n 3, 1) := by decide +kernel
theorem dX16_projected_185 : decode cX16_projected 185 = .ok (.ireturn, 1) := by decide +kernel
theorem dX16_holds__0 : decode cX16_holds_ 0 = .ok (.aload_n 0, 1) := by decide +kernel
theorem dX16_holds__1 : decode cX16_holds_ 1 = .ok (.iconst 0, 1) := by decide +kernel
theorem dX16_holds__2 : decode cX16_holds_ 2 = .ok (.putfield 65, 3) := by decide +kernel
theorem dX16_holds__5 : decode cX16_holds_ 5 = .ok (.aload_n 0, 1) := by decide +kernel
theorem dX16_holds__6 : decode cX16_holds_ 6 = .ok (.aload_n 0, 1) := by decide +kernel
theorem dX16_holds__7 : decode cX16_holds_ 7 = .ok (.getfield 84, 3) := by decide +kernel
theorem dX16_holds__10 : decode cX16_holds_ 10 = .ok (.ifCond .ne 7, 3) := by decide +kernel
theorem dX16_holds__13 : decode cX16_holds_ 13 = .ok (.iconst 1, 1) := by decide +kernel
theorem dX16_holds__14 : decode cX16_holds_ 14 = .ok (.goto 4, 3) := by decide +kernel
theorem dX16_holds__17 : decode cX16_holds_ 17 = .ok (.iconst 0, 1) := by decide +kernel
theorem dX16_holds__18 : decode cX16_holds_ 18 = .ok (.iconst 1, 1) := by decide +kernel
theorem dX16_holds__19 : decode cX16_holds_ 19 = .ok (.invokevirtual 87, 3) := by decide +kernel
theorem dX16_holds__22 : decode cX16_holds_ 22 = .ok (.ifCond .ne 31, 3) := by decide +kernel
theorem dX16_holds__25 : decode cX16_holds_ 25 = .ok (.aload_n 0, 1) := by decide +kernel
theorem dX16_holds__26 : decode cX16_holds_ 26 = .ok (.aload_n 0, 1) := by decide +kernel
theorem dX16_holds__27 : decode cX16_holds_ 27 = .ok (.iload_n 1, 1) := by decide +kernel
theorem dX16_holds__28 : decode cX16_holds_ 28 = .ok (.invokevirtual 106, 3) := by decide +kernel
theorem dX16_holds__31 : decode cX16_holds_ 31 = .ok (.iconst 2, 1) := by decide +kernel
theorem dX16_holds__32 : decode cX16_holds_ 32 = .ok (.invokevirtual 87, 3) := by decide +kernel
theorem dX16_holds__35 : decode cX16_holds_ 35 = .ok (.ifCond .ne 18, 3) := by decide +kernel
theorem dX16_holds__38 : decode cX16_holds_ 38 = .ok (.aload_n 0, 1) := by decide +kernel
theorem dX16_holds__39 : decode cX16_holds_ 39 = .ok (.aload_n 0, 1) := by decide +kernel
theorem dX16_holds__40 : decode cX16_holds_ 40 = .ok (.iload_n 1, 1) := by decide +kernel
theorem dX16_holds__41 : decode cX16_holds_ 41 = .ok (.iload_n 2, 1) := by decide +kernel
theorem dX16_holds__42 : decode cX16_holds_ 42 = .ok (.iload_n 3, 1) := by decide +kernel
theorem dX16_holds__43 : decode cX16_holds_ 43 = .ok (.invokevirtual 185, 3) := by decide +kernel
theorem dX16_holds__46 : decode cX16_holds_ 46 = .ok (.iconst 3, 1) := by decide +kernel
theorem dX16_holds__47 : decode cX16_holds_ 47 = .ok (.invokevirtual 87, 3) := by decide +kernel
theorem dX16_holds__50 : decode cX16_holds_ 50 = .ok (.ifCond .eq 5, 3) := by decide +kernel
theorem dX16_holds__53 : decode cX16_holds_ 53 = .ok (.iconst 0, 1) := by decide +kernel
theorem dX16_holds__54 : decode cX16_holds_ 54 = .ok (.ireturn, 1) := by decide +kernel
theorem dX16_holds__55 : decode cX16_holds_ 55 = .ok (.aload_n 0, 1) := by decide +kernel
theorem dX16_holds__56 : decode cX16_holds_ 56 = .ok (.aload_n 0, 1) := by decide +kernel
theorem dX16_holds__57 : decode cX16_holds_ 57 = .ok (.iload_n 1, 1) := by decide +kernel
theorem dX16_holds__58 : decode cX16_holds_ 58 = .ok (.iload_n 2, 1) := by decide +kernel
theorem dX16_holds__59 : decode cX16_holds_ 59 = .ok (.iload_n 3, 1) := by decide +kernel
theorem dX16_holds__60 : decode cX16_holds_ 60 = .ok (.invokevirtual 188, 3) := by decide +kernel
theorem dX16_holds__63 : decode cX16_holds_ 63 = .ok (.invokevirtual 380, 3) := by decide +kernel
theorem dX16_holds__66 : decode cX16_holds_ 66 = .ok (.istore 4, 2) := by decide +kernel
theorem dX16_holds__68 : decode cX16_holds_ 68 = .ok (.iload 4, 2) := by decide +kernel
theorem dX16_holds__70 : decode cX16_holds_ 70 = .ok (.aload_n 0, 1) := by decide +kernel
theorem dX16_holds__71 : decode cX16_holds_ 71 = .ok (.getfield 59, 3) := by decide +kernel
theorem dX16_holds__74 : decode cX16_holds_ 74 = .ok (.invokevirtual 76, 3) := by decide +kernel
theorem dX16_holds__77 : decode cX16_holds_ 77 = .ok (.if_icmp .ne 8, 3) := by decide +kernel
theorem dX16_holds__80 : decode cX16_holds_ 80 = .ok (.bipush 97, 2) := by decide +kernel
theorem dX16_holds__82 : decode cX16_holds_ 82 = .ok (.goto 15, 3) := by decide +kernel
theorem dX16_holds__85 : decode cX16_holds_ 85 = .ok (.iload 4, 2) := by decide +kernel
theorem dX16_holds__87 : decode cX16_holds_ 87 = .ok (.ifCond .ne 8, 3) := by decide +kernel
theorem dX16_holds__90 : decode cX16_holds_ 90 = .ok (.bipush 110, 2) := by decide +kernel
theorem dX16_holds__92 : decode cX16_holds_ 92 = .ok (.goto 5, 3) := by decide +kernel
theorem dX16_holds__95 : decode cX16_holds_ 95 = .ok (.bipush 115, 2) := by decide +kernel
theorem dX16_holds__97 : decode cX16_holds_ 97 = .ok (.ireturn, 1) := by decide +kernel
theorem dX16_reason_0 : decode cX16_reason 0 = .ok (.aload_n 0, 1) := by decide +kernel
theorem dX16_reason_1 : decode cX16_reason 1 = .ok (.iconst 0, 1) := by decide +kernel
theorem dX16_reason_2 : decode cX16_reason 2 = .ok (.putfield 65, 3) := by decide +kernel
theorem dX16_reason_5 : decode cX16_reason 5 = .ok (.aload_n 0, 1) := by decide +kernel
theorem dX16_reason_6 : decode cX16_reason 6 = .ok (.aload_n 0, 1) := by decide +kernel
theorem dX16_reason_7 : decode cX16_reason 7 = .ok (.getfield 84, 3) := by decide +kernel
theorem dX16_reason_10 : decode cX16_reason 10 = .ok (.ifCond .ne 7, 3) := by decide +kernel
theorem dX16_reason_13 : decode cX16_reason 13 = .ok (.iconst 1, 1) := by decide +kernel
theorem dX16_reason_14 : decode cX16_reason 14 = .ok (.goto 4, 3) := by decide +kernel
theorem dX16_reason_17 : decode cX16_reason 17 = .ok (.iconst 0, 1) := by decide +kernel
theorem dX16_reason_18 : decode cX16_reason 18 = .ok (.iconst 1, 1) := by decide +kernel
theorem dX16_reason_19 : decode cX16_reason 19 = .ok (.invokevirtual 87, 3) := by decide +kernel
theorem dX16_reason_22 : decode cX16_reason 22 = .ok (.ifCond .ne 48, 3) := by decide +kernel
theorem dX16_reason_25 : decode cX16_reason 25 = .ok (.aload_n 0, 1) := by decide +kernel
theorem dX16_reason_26 : decode cX16_reason 26 = .ok (.aload_n 0, 1) := by decide +kernel
theorem dX16_reason_27 : decode cX16_reason 27 = .ok (.iload_n 1, 1) := by decide +kernel
theorem dX16_reason_28 : decode cX16_reason 28 = .ok (.invokevirtual 371, 3) := by decide +kernel
theorem dX16_reason_31 : decode cX16_reason 31 = .ok (.ifCond .ne 11, 3) := by decide +kernel
theorem dX16_reason_34 : decode cX16_reason 34 = .ok (.aload_n 0, 1) := by decide +kernel
theorem dX16_reason_35 : decode cX16_reason 35 = .ok (.iload_n 2, 1) := by decide +kernel
theorem dX16_reason_36 : decode cX16_reason 36 = .ok (.invokevirtual 106, 3) := by decide +kernel
theorem dX16_reason_39 : decode cX16_reason 39 = .ok (.ifCond .eq 7, 3) := by decide +kernel
theorem dX16_reason_42 : decode cX16_reason 42 = .ok (.iconst 1, 1) := by decide +kernel
theorem dX16_reason_43 : decode cX16_reason 43 = .ok (.goto 4, 3) := by decide +kernel
theorem dX16_reason_46 : decode cX16_reason 46 = .ok (.iconst 0, 1) := by decide +kernel
theorem dX16_reason_47 : decode cX16_reason 47 = .ok (.iconst 2, 1) := by decide +kernel
theorem dX16_reason_48 : decode cX16_reason 48 = .ok (.invokevirtual 87, 3) := by decide +kernel
theorem dX16_reason_51 : decode cX16_reason 51 = .ok (.ifCond .ne 19, 3) := by decide +kernel
theorem dX16_reason_54 : decode cX16_reason 54 = .ok (.aload_n 0, 1) := by decide +kernel
theorem dX16_reason_55 : decode cX16_reason 55 = .ok (.aload_n 0, 1) := by decide +kernel
theorem dX16_reason_56 : decode cX16_reason 56 = .ok (.iload_n 2, 1) := by decide +kernel
theorem dX16_reason_57 : decode cX16_reason 57 = .ok (.iload_n 3, 1) := by decide +kernel
theorem dX16_reason_58 : decode cX16_reason 58 = .ok (.iload 4, 2) := by decide +kernel
theorem dX16_reason_60 : decode cX16_reason 60 = .ok (.invokevirtual 185, 3) := by decide +kernel
theorem dX16_reason_63 : decode cX16_reason 63 = .ok (.iconst 3, 1) := by decide +kernel
theorem dX16_reason_64 : decode cX16_reason 64 = .ok (.invokevirtual 87, 3) := by decide +kernel
theorem dX16_reason_67 : decode cX16_reason 67 = .ok (.ifCond .eq 5, 3) := by decide +kernel
theorem dX16_reason_70 : decode cX16_reason 70 = .ok (.iconst 0, 1) := by decide +kernel
theorem dX16_reason_71 : decode cX16_reason 71 = .ok (.ireturn, 1) := by decide +kernel
theorem dX16_reason_72 : decode cX16_reason 72 = .ok (.aload_n 0, 1) := by decide +kernel
theorem dX16_reason_73 : decode cX16_reason 73 = .ok (.iload_n 2, 1) := by decide +kernel
theorem dX16_reason_74 : decode cX16_reason 74 = .ok (.iload_n 3, 1) := by decide +kernel
theorem dX16_reason_75 : decode cX16_reason 75 = .ok (.iload 4, 2) := by decide +kernel
theorem dX16_reason_77 : decode cX16_reason 77 = .ok (.invokevirtual 188, 3) := by decide +kernel
theorem dX16_reason_80 : decode cX16_reason 80 = .ok (.istore 5, 2) := by decide +kernel
theorem dX16_reason_82 : decode cX16_reason 82 = .ok (.aload_n 0, 1) := by decide +kernel
theorem dX16_reason_83 : decode cX16_reason 83 = .ok (.aload_n 0, 1) := by decide +kernel
theorem dX16_reason_84 : decode cX16_reason 84 = .ok (.iload_n 1, 1) := by decide +kernel
theorem dX16_reason_85 : decode cX16_reason 85 = .ok (.iload 5, 2) := by decide +kernel
theorem dX16_reason_87 : decode cX16_reason 87 = .ok (.invokevirtual 374, 3) := by decide +kernel
theorem dX16_reason_90 : decode cX16_reason 90 = .ok (.ifCond .ne 7, 3) := by decide +kernel
theorem dX16_reason_93 : decode cX16_reason 93 = .ok (.iconst 1, 1) := by decide +kernel
theorem dX16_reason_94 : decode cX16_reason 94 = .ok (.goto 4, 3) := by decide +kernel
theorem dX16_reason_97 : decode cX16_reason 97 = .ok (.iconst 0, 1) := by decide +kernel
theorem dX16_reason_98 : decode cX16_reason 98 = .ok (.iconst 4, 1) := by decide +kernel
theorem dX16_reason_99 : decode cX16_reason 99 = .ok (.invokevirtual 87, 3) := by decide +kernel
theorem dX16_reason_102 : decode cX16_reason 102 = .ok (.ifCond .eq 5, 3) := by decide +kernel
theorem dX16_reason_105 : decode cX16_reason 105 = .ok (.iconst 0, 1) := by decide +kernel
theorem dX16_reason_106 : decode cX16_reason 106 = .ok (.ireturn, 1) := by decide +kernel
theorem dX16_reason_107 : decode cX16_reason 107 = .ok (.bipush 20, 2) := by decide +kernel
theorem dX16_reason_109 : decode cX16_reason 109 = .ok (.istore 6, 2) := by decide +kernel
theorem dX16_reason_111 : decode cX16_reason 111 = .ok (.aload_n 0, 1) := by decide +kernel
theorem dX16_reason_112 : decode cX16_reason 112 = .ok (.getfield 43, 3) := by decide +kernel
theorem dX16_reason_115 : decode cX16_reason 115 = .ok (.invokevirtual 167, 3) := by decide +kernel
theorem dX16_reason_118 : decode cX16_reason 118 = .ok (.astore 7, 2) := by decide +kernel
theorem dX16_reason_120 : decode cX16_reason 120 = .ok (.aload 7, 2) := by decide +kernel
theorem dX16_reason_122 : decode cX16_reason 122 = .ok (.invokeinterface 171 1, 5) := by decide +kernel
theorem dX16_reason_127 : decode cX16_reason 127 = .ok (.ifCond .eq 52, 3) := by decide +kernel
theorem dX16_reason_130 : decode cX16_reason 130 = .ok (.aload 7, 2) := by decide +kernel
theorem dX16_reason_132 : decode cX16_reason 132 = .ok (.invokeinterface 177 1, 5) := by decide +kernel
theorem dX16_reason_137 : decode cX16_reason 137 = .ok (.checkcast 264, 3) := by decide +kernel
theorem dX16_reason_140 : decode cX16_reason 140 = .ok (.astore 8, 2) := by decide +kernel
theorem dX16_reason_142 : decode cX16_reason 142 = .ok (.aload 8, 2) := by decide +kernel
theorem dX16_reason_144 : decode cX16_reason 144 = .ok (.getfield 267, 3) := by decide +kernel
theorem dX16_reason_147 : decode cX16_reason 147 = .ok (.iload 6, 2) := by decide +kernel
theorem dX16_reason_149 : decode cX16_reason 149 = .ok (.if_icmp .ge 23, 3) := by decide +kernel
theorem dX16_reason_152 : decode cX16_reason 152 = .ok (.aload_n 0, 1) := by decide +kernel
theorem dX16_reason_153 : decode cX16_reason 153 = .ok (.aload 8, 2) := by decide +kernel
theorem dX16_reason_155 : decode cX16_reason 155 = .ok (.iload_n 1, 1) := by decide +kernel
theorem dX16_reason_156 : decode cX16_reason 156 = .ok (.iload 5, 2) := by decide +kernel
theorem dX16_reason_158 : decode cX16_reason 158 = .ok (.invokevirtual 383, 3) := by decide +kernel
theorem dX16_reason_161 : decode cX16_reason 161 = .ok (.ifCond .eq 11, 3) := by decide +kernel
theorem dX16_reason_164 : decode cX16_reason 164 = .ok (.aload 8, 2) := by decide +kernel
theorem dX16_reason_166 : decode cX16_reason 166 = .ok (.getfield 267, 3) := by decide +kernel
theorem dX16_reason_169 : decode cX16_reason 169 = .ok (.goto 5, 3) := by decide +kernel
theorem dX16_reason_172 : decode cX16_reason 172 = .ok (.iload 6, 2) := by decide +kernel
theorem dX16_reason_174 : decode cX16_reason 174 = .ok (.istore 6, 2) := by decide +kernel
theorem dX16_reason_176 : decode cX16_reason 176 = .ok (.goto (-56), 3) := by decide +kernel
theorem dX16_reason_179 : decode cX16_reason 179 = .ok (.iload 6, 2) := by decide +kernel
theorem dX16_reason_181 : decode cX16_reason 181 = .ok (.bipush 20, 2) := by decide +kernel
theorem dX16_reason_183 : decode cX16_reason 183 = .ok (.if_icmp .ge 8, 3) := by decide +kernel
theorem dX16_reason_186 : decode cX16_reason 186 = .ok (.iload 6, 2) := by decide +kernel
theorem dX16_reason_188 : decode cX16_reason 188 = .ok (.goto 12, 3) := by decide +kernel
theorem dX16_reason_191 : decode cX16_reason 191 = .ok (.bipush 100, 2) := by decide +kernel
theorem dX16_reason_193 : decode cX16_reason 193 = .ok (.aload_n 0, 1) := by decide +kernel
theorem dX16_reason_194 : decode cX16_reason 194 = .ok (.iload 5, 2) := by decide +kernel
theorem dX16_reason_196 : decode cX16_reason 196 = .ok (.invokevirtual 192, 3) := by decide +kernel
theorem dX16_reason_199 : decode cX16_reason 199 = .ok (.iadd, 1) := by decide +kernel
theorem dX16_reason_200 : decode cX16_reason 200 = .ok (.ireturn, 1) := by decide +kernel
theorem dX16_share_0 : decode cX16_share 0 = .ok (.aload_n 0, 1) := by decide +kernel
theorem dX16_share_1 : decode cX16_share 1 = .ok (.iconst 0, 1) := by decide +kernel
theorem dX16_share_2 : decode cX16_share 2 = .ok (.putfield 65, 3) := by decide +kernel
theorem dX16_share_5 : decode cX16_share 5 = .ok (.aload_n 0, 1) := by decide +kernel
theorem dX16_share_6 : decode cX16_share 6 = .ok (.aload_n 0, 1) := by decide +kernel
theorem dX16_share_7 : decode cX16_share 7 = .ok (.getfield 84, 3) := by decide +kernel
theorem dX16_share_10 : decode cX16_share 10 = .ok (.ifCond .ne 7, 3) := by decide +kernel
theorem dX16_share_13 : decode cX16_share 13 = .ok (.iconst 1, 1) := by decide +kernel
theorem dX16_share_14 : decode cX16_share 14 = .ok (.goto 4, 3) := by decide +kernel
theorem dX16_share_17 : decode cX16_share 17 = .ok (.iconst 0, 1) := by decide +kernel
theorem dX16_share_18 : decode cX16_share 18 = .ok (.iconst 1, 1) := by decide +kernel
theorem dX16_share_19 : decode cX16_share 19 = .ok (.invokevirtual 87, 3) := by decide +kernel
theorem dX16_share_22 : decode cX16_share 22 = .ok (.ifCond .ne 46, 3) := by decide +kernel
theorem dX16_share_25 : decode cX16_share 25 = .ok (.aload_n 0, 1) := by decide +kernel
theorem dX16_share_26 : decode cX16_share 26 = .ok (.aload_n 0, 1) := by decide +kernel
theorem dX16_share_27 : decode cX16_share 27 = .ok (.iload_n 1, 1) := by decide +kernel
theorem dX16_share_28 : decode cX16_share 28 = .ok (.invokevirtual 106, 3) := by decide +kernel
theorem dX16_share_31 : decode cX16_share 31 = .ok (.iconst 2, 1) := by decide +kernel
theorem dX16_share_32 : decode cX16_share 32 = .ok (.invokevirtual 87, 3) := by decide +kernel
theorem dX16_share_35 : decode cX16_share 35 = .ok (.ifCond .ne 33, 3) := by decide +kernel
theorem dX16_share_38 : decode cX16_share 38 = .ok (.aload_n 0, 1) := by decide +kernel
theorem dX16_share_39 : decode cX16_share 39 = .ok (.aload_n 0, 1) := by decide +kernel
theorem dX16_share_40 : decode cX16_share 40 = .ok (.iload_n 1, 1) := by decide +kernel
theorem dX16_share_41 : decode cX16_share 41 = .ok (.iload_n 2, 1) := by decide +kernel
theorem dX16_share_42 : decode cX16_share 42 = .ok (.iload_n 3, 1) := by decide +kernel
theorem dX16_share_43 : decode cX16_share 43 = .ok (.invokevirtual 185, 3) := by decide +kernel
theorem dX16_share_46 : decode cX16_share 46 = .ok (.iconst 3, 1) := by decide +kernel
theorem dX16_share_47 : decode cX16_share 47 = .ok (.invokevirtual 87, 3) := by decide +kernel
theorem dX16_share_50 : decode cX16_share 50 = .ok (.ifCond .ne 18, 3) := by decide +kernel
theorem dX16_share_53 : decode cX16_share 53 = .ok (.aload_n 0, 1) := by decide +kernel
theorem dX16_share_54 : decode cX16_share 54 = .ok (.aload_n 0, 1) := by decide +kernel
theorem dX16_share_55 : decode cX16_share 55 = .ok (.getfield 59, 3) := by decide +kernel
theorem dX16_share_58 : decode cX16_share 58 = .ok (.invokevirtual 387, 3) := by decide +kernel
theorem dX16_share_61 : decode cX16_share 61 = .ok (.iconst 4, 1) := by decide +kernel
theorem dX16_share_62 : decode cX16_share 62 = .ok (.invokevirtual 87, 3) := by decide +kernel
theorem dX16_share_65 : decode cX16_share 65 = .ok (.ifCond .eq 5, 3) := by decide +kernel
theorem dX16_share_68 : decode cX16_share 68 = .ok (.fconst 0, 1) := by decide +kernel
theorem dX16_share_69 : decode cX16_share 69 = .ok (.freturn, 1) := by decide +kernel
theorem dX16_share_70 : decode cX16_share 70 = .ok (.aload_n 0, 1) := by decide +kernel
theorem dX16_share_71 : decode cX16_share 71 = .ok (.aload_n 0, 1) := by decide +kernel
theorem dX16_share_72 : decode cX16_share 72 = .ok (.iload_n 1, 1) := by decide +kernel
theorem dX16_share_73 : decode cX16_share 73 = .ok (.iload_n 2, 1) := by decide +kernel
theorem dX16_share_74 : decode cX16_share 74 = .ok (.iload_n 3, 1) := by decide +kernel
theorem dX16_share_75 : decode cX16_share 75 = .ok (.invokevirtual 188, 3) := by decide +kernel
theorem dX16_share_78 : decode cX16_share 78 = .ok (.invokevirtual 380, 3) := by decide +kernel
theorem dX16_share_81 : decode cX16_share 81 = .ok (.i2f, 1) := by decide +kernel
theorem dX16_share_82 : decode cX16_share 82 = .ok (.aload_n 0, 1) := by decide +kernel
theorem dX16_share_83 : decode cX16_share 83 = .ok (.getfield 59, 3) := by decide +kernel
theorem dX16_share_86 : decode cX16_share 86 = .ok (.invokevirtual 76, 3) := by decide +kernel
theorem dX16_share_89 : decode cX16_share 89 = .ok (.i2f, 1) := by decide +kernel
theorem dX16_share_90 : decode cX16_share 90 = .ok (.fdiv, 1) := by decide +kernel
theorem dX16_share_91 : decode cX16_share 91 = .ok (.freturn, 1) := by decide +kernel
theorem dX16_commonest_0 : decode cX16_commonest 0 = .ok (.aload_n 0, 1) := by decide +kernel
theorem dX16_commonest_1 : decode cX16_commonest 1 = .ok (.iconst 0, 1) := by decide +kernel
theorem dX16_commonest_2 : decode cX16_commonest 2 = .ok (.putfield 65, 3) := by decide +kernel
theorem dX16_commonest_5 : decode cX16_commonest 5 = .ok (.aload_n 0, 1) := by decide +kernel
theorem dX16_commonest_6 : decode cX16_commonest 6 = .ok (.aload_n 0, 1) := by decide +kernel
theorem dX16_commonest_7 : decode cX16_commonest 7 = .ok (.getfield 84, 3) := by decide +kernel
theorem dX16_commonest_10 : decode cX16_commonest 10 = .ok (.ifCond .ne 7, 3) := by decide +kernel
theorem dX16_commonest_13 : decode cX16_commonest 13 = .ok (.iconst 1, 1) := by decide +kernel
theorem dX16_commonest_14 : decode cX16_commonest 14 = .ok (.goto 4, 3) := by decide +kernel
theorem dX16_commonest_17 : decode cX16_commonest 17 = .ok (.iconst 0, 1) := by decide +kernel
theorem dX16_commonest_18 : decode cX16_commonest 18 = .ok (.iconst 1, 1) := by decide +kernel
theorem dX16_commonest_19 : decode cX16_commonest 19 = .ok (.invokevirtual 87, 3) := by decide +kernel
theorem dX16_commonest_22 : decode cX16_commonest 22 = .ok (.ifCond .ne 33, 3) := by decide +kernel
theorem dX16_commonest_25 : decode cX16_commonest 25 = .ok (.aload_n 0, 1) := by decide +kernel
theorem dX16_commonest_26 : decode cX16_commonest 26 = .ok (.aload_n 0, 1) := by decide +kernel
theorem dX16_commonest_27 : decode cX16_commonest 27 = .ok (.getfield 296, 3) := by decide +kernel
theorem dX16_commonest_30 : decode cX16_commonest 30 = .ok (.ifCond .eq 13, 3) := by decide +kernel
theorem dX16_commonest_33 : decode cX16_commonest 33 = .ok (.aload_n 0, 1) := by decide +kernel
theorem dX16_commonest_34 : decode cX16_commonest 34 = .ok (.getfield 59, 3) := by decide +kernel
theorem dX16_commonest_37 : decode cX16_commonest 37 = .ok (.invokevirtual 387, 3) := by decide +kernel
theorem dX16_commonest_40 : decode cX16_commonest 40 = .ok (.ifCond .eq 7, 3) := by decide +kernel
theorem dX16_commonest_43 : decode cX16_commonest 43 = .ok (.iconst 1, 1) := by decide +kernel
theorem dX16_commonest_44 : decode cX16_commonest 44 = .ok (.goto 4, 3) := by decide +kernel
theorem dX16_commonest_47 : decode cX16_commonest 47 = .ok (.iconst 0, 1) := by decide +kernel
theorem dX16_commonest_48 : decode cX16_commonest 48 = .ok (.iconst 2, 1) := by decide +kernel
theorem dX16_commonest_49 : decode cX16_commonest 49 = .ok (.invokevirtual 87, 3) := by decide +kernel
theorem dX16_commonest_52 : decode cX16_commonest 52 = .ok (.ifCond .eq 5, 3) := by decide +kernel
theorem dX16_commonest_55 : decode cX16_commonest 55 = .ok (.iconst 0, 1) := by decide +kernel
theorem dX16_commonest_56 : decode cX16_commonest 56 = .ok (.ireturn, 1) := by decide +kernel
theorem dX16_commonest_57 : decode cX16_commonest 57 = .ok (.aload_n 0, 1) := by decide +kernel
theorem dX16_commonest_58 : decode cX16_commonest 58 = .ok (.getfield 46, 3) := by decide +kernel
theorem dX16_commonest_61 : decode cX16_commonest 61 = .ok (.iconst 0, 1) := by decide +kernel
theorem dX16_commonest_62 : decode cX16_commonest 62 = .ok (.iaload, 1) := by decide +kernel
theorem dX16_commonest_63 : decode cX16_commonest 63 = .ok (.istore_n 1, 1) := by decide +kernel
theorem dX16_commonest_64 : decode cX16_commonest 64 = .ok (.iconst 1, 1) := by decide +kernel
theorem dX16_commonest_65 : decode cX16_commonest 65 = .ok (.istore_n 2, 1) := by decide +kernel
theorem dX16_commonest_66 : decode cX16_commonest 66 = .ok (.iload_n 2, 1) := by decide +kernel
theorem dX16_commonest_67 : decode cX16_commonest 67 = .ok (.aload_n 0, 1) := by decide +kernel
theorem dX16_commonest_68 : decode cX16_commonest 68 = .ok (.getfield 296, 3) := by decide +kernel
theorem dX16_commonest_71 : decode cX16_commonest 71 = .ok (.if_icmp .ge 38, 3) := by decide +kernel
theorem dX16_commonest_74 : decode cX16_commonest 74 = .ok (.aload_n 0, 1) := by decide +kernel
theorem dX16_commonest_75 : decode cX16_commonest 75 = .ok (.aload_n 0, 1) := by decide +kernel
theorem dX16_commonest_76 : decode cX16_commonest 76 = .ok (.getfield 46, 3) := by decide +kernel
theorem dX16_commonest_79 : decode cX16_commonest 79 = .ok (.iload_n 2, 1) := by decide +kernel
theorem dX16_commonest_80 : decode cX16_commonest 80 = .ok (.iaload, 1) := by decide +kernel
theorem dX16_commonest_81 : decode cX16_commonest 81 = .ok (.invokevirtual 380, 3) := by decide +kernel
theorem dX16_commonest_84 : decode cX16_commonest 84 = .ok (.aload_n 0, 1) := by decide +kernel
theorem dX16_commonest_85 : decode cX16_commonest 85 = .ok (.iload_n 1, 1) := by decide +kernel
theorem dX16_commonest_86 : decode cX16_commonest 86 = .ok (.invokevirtual 380, 3) := by decide +kernel
theorem dX16_commonest_89 : decode cX16_commonest 89 = .ok (.if_icmp .le 12, 3) := by decide +kernel
theorem dX16_commonest_92 : decode cX16_commonest 92 = .ok (.aload_n 0, 1) := by decide +kernel
theorem dX16_commonest_93 : decode cX16_commonest 93 = .ok (.getfield 46, 3) := by decide +kernel
theorem dX16_commonest_96 : decode cX16_commonest 96 = .ok (.iload_n 2, 1) := by decide +kernel
theorem dX16_commonest_97 : decode cX16_commonest 97 = .ok (.iaload, 1) := by decide +kernel
theorem dX16_commonest_98 : decode cX16_commonest 98 = .ok (.goto 4, 3) := by decide +kernel
theorem dX16_commonest_101 : decode cX16_commonest 101 = .ok (.iload_n 1, 1) := by decide +kernel
theorem dX16_commonest_102 : decode cX16_commonest 102 = .ok (.istore_n 1, 1) := by decide +kernel
theorem dX16_commonest_103 : decode cX16_commonest 103 = .ok (.iinc 2 1, 3) := by decide +kernel
theorem dX16_commonest_106 : decode cX16_commonest 106 = .ok (.goto (-40), 3) := by decide +kernel
theorem dX16_commonest_109 : decode cX16_commonest 109 = .ok (.bipush 100, 2) := by decide +kernel
theorem dX16_commonest_111 : decode cX16_commonest 111 = .ok (.iload_n 1, 1) := by decide +kernel
theorem dX16_commonest_112 : decode cX16_commonest 112 = .ok (.bipush 64, 2) := by decide +kernel
theorem dX16_commonest_114 : decode cX16_commonest 114 = .ok (.idiv, 1) := by decide +kernel
theorem dX16_commonest_115 : decode cX16_commonest 115 = .ok (.imul, 1) := by decide +kernel
theorem dX16_commonest_116 : decode cX16_commonest 116 = .ok (.bipush 10, 2) := by decide +kernel
theorem dX16_commonest_118 : decode cX16_commonest 118 = .ok (.iload_n 1, 1) := by decide +kernel
theorem dX16_commonest_119 : decode cX16_commonest 119 = .ok (.bipush 8, 2) := by decide +kernel
theorem dX16_commonest_121 : decode cX16_commonest 121 = .ok (.idiv, 1) := by decide +kernel
theorem dX16_commonest_122 : decode cX16_commonest 122 = .ok (.bipush 8, 2) := by decide +kernel
theorem dX16_commonest_124 : decode cX16_commonest 124 = .ok (.irem, 1) := by decide +kernel
theorem dX16_commonest_125 : decode cX16_commonest 125 = .ok (.imul, 1) := by decide +kernel
theorem dX16_commonest_126 : decode cX16_commonest 126 = .ok (.iadd, 1) := by decide +kernel
theorem dX16_commonest_127 : decode cX16_commonest 127 = .ok (.iload_n 1, 1) := by decide +kernel
theorem dX16_commonest_128 : decode cX16_commonest 128 = .ok (.bipush 8, 2) := by decide +kernel
theorem dX16_commonest_130 : decode cX16_commonest 130 = .ok (.irem, 1) := by decide +kernel
theorem dX16_commonest_131 : decode cX16_commonest 131 = .ok (.iadd, 1) := by decide +kernel
theorem dX16_commonest_132 : decode cX16_commonest 132 = .ok (.ireturn, 1) := by decide +kernel
theorem dX16_meanSize_0 : decode cX16_meanSize 0 = .ok (.aload_n 0, 1) := by decide +kernel
theorem dX16_meanSize_1 : decode cX16_meanSize 1 = .ok (.iconst 0, 1) := by decide +kernel
theorem dX16_meanSize_2 : decode cX16_meanSize 2 = .ok (.putfield 65, 3) := by decide +kernel
theorem dX16_meanSize_5 : decode cX16_meanSize 5 = .ok (.aload_n 0, 1) := by decide +kernel
theorem dX16_meanSize_6 : decode cX16_meanSize 6 = .ok (.aload_n 0, 1) := by decide +kernel
theorem dX16_meanSize_7 : decode cX16_meanSize 7 = .ok (.getfield 84, 3) := by decide +kernel
theorem dX16_meanSize_10 : decode cX16_meanSize 10 = .ok (.ifCond .ne 7, 3) := by decide +kernel
theorem dX16_meanSize_13 : decode cX16_meanSize 13 = .ok (.iconst 1, 1) := by decide +kernel
theorem dX16_meanSize_14 : decode cX16_meanSize 14 = .ok (.goto 4, 3) := by decide +kernel
theorem dX16_meanSize_17 : decode cX16_meanSize 17 = .ok (.iconst 0, 1) := by decide +kernel
theorem dX16_meanSize_18 : decode cX16_meanSize 18 = .ok (.iconst 1, 1) := by decide +kernel
theorem dX16_meanSize_19 : decode cX16_meanSize 19 = .ok (.invokevirtual 87, 3) := by decide +kernel
theorem dX16_meanSize_22 : decode cX16_meanSize 22 = .ok (.ifCond .ne 18, 3) := by decide +kernel
theorem dX16_meanSize_25 : decode cX16_meanSize 25 = .ok (.aload_n 0, 1) := by decide +kernel
theorem dX16_meanSize_26 : decode cX16_meanSize 26 = .ok (.aload_n 0, 1) := by decide +kernel
theorem dX16_meanSize_27 : decode cX16_meanSize 27 = .ok (.getfield 59, 3) := by decide +kernel
theorem dX16_meanSize_30 : decode cX16_meanSize 30 = .ok (.invokevirtual 387, 3) := by decide +kernel
theorem dX16_meanSize_33 : decode cX16_meanSize 33 = .ok (.iconst 2, 1) := by decide +kernel
theorem dX16_meanSize_34 : decode cX16_meanSize 34 = .ok (.invokevirtual 87, 3) := by decide +kernel
theorem dX16_meanSize_37 : decode cX16_meanSize 37 = .ok (.ifCond .eq 5, 3) := by decide +kernel
theorem dX16_meanSize_40 : decode cX16_meanSize 40 = .ok (.dconst 0, 1) := by decide +kernel
theorem dX16_meanSize_41 : decode cX16_meanSize 41 = .ok (.dreturn, 1) := by decide +kernel
theorem dX16_meanSize_42 : decode cX16_meanSize 42 = .ok (.iconst 0, 1) := by decide +kernel
theorem dX16_meanSize_43 : decode cX16_meanSize 43 = .ok (.istore_n 1, 1) := by decide +kernel
theorem dX16_meanSize_44 : decode cX16_meanSize 44 = .ok (.aload_n 0, 1) := by decide +kernel
theorem dX16_meanSize_45 : decode cX16_meanSize 45 = .ok (.getfield 59, 3) := by decide +kernel
theorem dX16_meanSize_48 : decode cX16_meanSize 48 = .ok (.invokevirtual 167, 3) := by decide +kernel
theorem dX16_meanSize_51 : decode cX16_meanSize 51 = .ok (.astore_n 2, 1) := by decide +kernel
theorem dX16_meanSize_52 : decode cX16_meanSize 52 = .ok (.aload_n 2, 1) := by decide +kernel
theorem dX16_meanSize_53 : decode cX16_meanSize 53 = .ok (.invokeinterface 171 1, 5) := by decide +kernel
theorem dX16_meanSize_58 : decode cX16_meanSize 58 = .ok (.ifCond .eq 31, 3) := by decide +kernel
theorem dX16_meanSize_61 : decode cX16_meanSize 61 = .ok (.aload_n 2, 1) := by decide +kernel
theorem dX16_meanSize_62 : decode cX16_meanSize 62 = .ok (.invokeinterface 177 1, 5) := by decide +kernel
theorem dX16_meanSize_67 : decode cX16_meanSize 67 = .ok (.checkcast 335, 3) := by decide +kernel
theorem dX16_meanSize_70 : decode cX16_meanSize 70 = .ok (.astore_n 3, 1) := by decide +kernel
theorem dX16_meanSize_71 : decode cX16_meanSize 71 = .ok (.iload_n 1, 1) := by decide +kernel
theorem dX16_meanSize_72 : decode cX16_meanSize 72 = .ok (.aload_n 0, 1) := by decide +kernel
theorem dX16_meanSize_73 : decode cX16_meanSize 73 = .ok (.invokevirtual 377, 3) := by decide +kernel
theorem dX16_meanSize_76 : decode cX16_meanSize 76 = .ok (.aload_n 3, 1) := by decide +kernel
theorem dX16_meanSize_77 : decode cX16_meanSize 77 = .ok (.getfield 368, 3) := by decide +kernel
theorem dX16_meanSize_80 : decode cX16_meanSize 80 = .ok (.invokestatic 321, 3) := by decide +kernel
theorem dX16_meanSize_83 : decode cX16_meanSize 83 = .ok (.iadd, 1) := by decide +kernel
theorem dX16_meanSize_84 : decode cX16_meanSize 84 = .ok (.iadd, 1) := by decide +kernel
theorem dX16_meanSize_85 : decode cX16_meanSize 85 = .ok (.istore_n 1, 1) := by decide +kernel
theorem dX16_meanSize_86 : decode cX16_meanSize 86 = .ok (.goto (-34), 3) := by decide +kernel
theorem dX16_meanSize_89 : decode cX16_meanSize 89 = .ok (.iload_n 1, 1) := by decide +kernel
theorem dX16_meanSize_90 : decode cX16_meanSize 90 = .ok (.i2d, 1) := by decide +kernel
theorem dX16_meanSize_91 : decode cX16_meanSize 91 = .ok (.aload_n 0, 1) := by decide +kernel
theorem dX16_meanSize_92 : decode cX16_meanSize 92 = .ok (.getfield 59, 3) := by decide +kernel
theorem dX16_meanSize_95 : decode cX16_meanSize 95 = .ok (.invokevirtual 76, 3) := by decide +kernel
theorem dX16_meanSize_98 : decode cX16_meanSize 98 = .ok (.i2d, 1) := by decide +kernel
theorem dX16_meanSize_99 : decode cX16_meanSize 99 = .ok (.ddiv, 1) := by decide +kernel
theorem dX16_meanSize_100 : decode cX16_meanSize 100 = .ok (.dreturn, 1) := by decide +kernel
theorem dJx4a65c_size_8abf5_0 : decode cJx4a65c_size_8abf5 0 = .ok (.aload_n 0, 1) := by decide +kernel
theorem dJx4a65c_size_8abf5_1 : decode cJx4a65c_size_8abf5 1 = .ok (.getfield 48, 3) := by decide +kernel
theorem dJx4a65c_size_8abf5_4 : decode cJx4a65c_size_8abf5 4 = .ok (.ireturn, 1) := by decide +kernel
theorem wq_neg1 {k : Int32} (h : ¬ k < 0) : (-1) < k := Int32.lt_of_lt_of_le (by decide) (Int32.not_lt.mp h)
def vs_k_X16_in_none : List Cond := .code yX16_in cX16_in 3 (some .boolean) :: ([])
set_option maxHeartbeats 4000000 in
set_option maxRecDepth 100000 in
theorem k_X16_in_none (l : Launch) (D : va_G) (ty : Nat → ClassId) (td mi sz : Nat) (k1 : Int32) : Met l yX16_in vs_k_X16_in_none { frames := 0, cells := 0, slots := 0, locals := 0 } (va_Pc [.int k1, .int 0, .int (-1)] (wq_P D ty td mi [] sz)) (va_Qi (fun (r : Int32) (u : va_W) => (r = 0 ∧ (u = []))) (wq_B D (va_A [] sz)) (va_A [] sz)) 0 0 (va_A [] sz) := by
  refine Met.ofW (cc := cX16_in) (maxL := 3) (ret := (some .boolean)) (by decide) rfl ?_
  intro p e s m args below meth c s₁ B hml hv
  obtain ⟨rfl, hsz, hP, hK, hD0, hE⟩ := hv
  have hx := B.exec
  have hb := B.bytes
  have hr := B.returns
  have hts := atoms_spec (ws := vs_k_X16_in_none) B.pre
  have hown : s.vm.findClass RX16 = some m.cls := findClass_of_methodNamed B.named
  have hlocks := B.notSynchronized
  subst hsz
  have hD := hD0.self (sz := s.heap.size)
  generalize hAe : va_A [] s.heap.size = A at hD hE ⊢
  have hA : ∀ q : Nat, s.heap.size ≤ q → A q := fun q h => by rw [← hAe]; exact Or.inr h
  have hS : va_S A s.heap s.heap [] := va_S.rf
  have hP : va_P D vwCl [] s.heap := hP
  have hl := lv_entry ([.int k1, .int 0, .int (-1)]) (n := 3) (Nat.le_of_ble_eq_true rfl)
  rw [lg_entry_eq]
  generalize (lg_sl ([.int k1, .int 0, .int (-1)]) ++ List.replicate (3 - (lg_sl ([.int k1, .int 0, .int (-1)])).length) Slot.unset).toArray = ls at hl ⊢
  have hl : lv_has ls 3 [(0, .int k1), (1, .int 0), (2, .int (-1))] := hl
  refine lv_iload_n hx hb dX16_in_0 rfl (lv_at hl 0 rfl) ?_
  refine lv_iload_n hx hb dX16_in_1 rfl (lv_at hl 1 rfl) ?_
  refine lv_icmp_lt (tgt := 14) hx hb dX16_in_2 (by decide) (fun c_1 => ?_) (fun c_1 => ?_)
  · refine lv_iconst (v := 0) hx hb dX16_in_14 (by decide) ?_
    have hP9 := hP.sub (ws' := []) [] rfl
    have hD9 := hD.sub (ws' := []) [] (by decide) rfl
    refine W.widen (k := 0) (n := 0) (Nat.le_of_ble_eq_true rfl) (Nat.le_of_ble_eq_true rfl) ?_
    exact W.zret (v := 0) hx hb hr rfl (fun t ht hW => ⟨⟨0, [], rfl, ⟨rfl, rfl⟩, wq_B.of ht hP9 hD9⟩, hS.F ht⟩) hS.2.2 dX16_in_15
  · refine lv_iload_n hx hb dX16_in_5 rfl (lv_at hl 0 rfl) ?_
    refine lv_iload_n hx hb dX16_in_6 rfl (lv_at hl 2 rfl) ?_
    refine lv_icmp_gt (tgt := 14) hx hb dX16_in_7 (by decide) (fun _ => ?_) (fun c0 => absurd (wq_neg1 c_1) c0)
    refine lv_iconst (v := 0) hx hb dX16_in_14 (by decide) ?_
    have hP9 := hP.sub (ws' := []) [] rfl
    have hD9 := hD.sub (ws' := []) [] (by decide) rfl
    refine W.widen (k := 0) (n := 0) (Nat.le_of_ble_eq_true rfl) (Nat.le_of_ble_eq_true rfl) ?_
    exact W.zret (v := 0) hx hb hr rfl (fun t ht hW => ⟨⟨0, [], rfl, ⟨rfl, rfl⟩, wq_B.of ht hP9 hD9⟩, hS.F ht⟩) hS.2.2 dX16_in_15
def vs_k_X16_in : List Cond := .code yX16_in cX16_in 3 (some .boolean) :: ([])
set_option maxHeartbeats 4000000 in
set_option maxRecDepth 100000 in
theorem k_X16_in (l : Launch) (D : va_G) (ty : Nat → ClassId) (td mi sz : Nat) (k1 : Int32) (k2 : Int32) (k3 : Int32) : Met l yX16_in vs_k_X16_in { frames := 0, cells := 0, slots := 0, locals := 0 } (va_Pc [.int k1, .int k2, .int k3] (wq_P D ty td mi [] sz)) (va_Qi (fun (r : Int32) (u : va_W) => (r = 0 ∧ (k1 < k2) ∧ (u = [])) ∨ (r = 0 ∧ (¬ (k1 < k2)) ∧ (k3 < k1) ∧ (u = [])) ∨ (r = 1 ∧ (¬ (k1 < k2)) ∧ (¬ (k3 < k1)) ∧ (u = []))) (wq_B D (va_A [] sz)) (va_A [] sz)) 0 0 (va_A [] sz) := by
  refine Met.ofW (cc := cX16_in) (maxL := 3) (ret := (some .boolean)) (by decide) rfl ?_
  intro p e s m args below meth c s₁ B hml hv
  obtain ⟨rfl, hsz, hP, hK, hD0, hE⟩ := hv
  have hx := B.exec
  have hb := B.bytes
  have hr := B.returns
  have hts := atoms_spec (ws := vs_k_X16_in) B.pre
  have hown : s.vm.findClass RX16 = some m.cls := findClass_of_methodNamed B.named
  have hlocks := B.notSynchronized
  subst hsz
  have hD := hD0.self (sz := s.heap.size)
  generalize hAe : va_A [] s.heap.size = A at hD hE ⊢
  have hA : ∀ q : Nat, s.heap.size ≤ q → A q := fun q h => by rw [← hAe]; exact Or.inr h
  have hS : va_S A s.heap s.heap [] := va_S.rf
  have hP : va_P D vwCl [] s.heap := hP
  have hl := lv_entry ([.int k1, .int k2, .int k3]) (n := 3) (Nat.le_of_ble_eq_true rfl)
  rw [lg_entry_eq]
  generalize (lg_sl ([.int k1, .int k2, .int k3]) ++ List.replicate (3 - (lg_sl ([.int k1, .int k2, .int k3])).length) Slot.unset).toArray = ls at hl ⊢
  have hl : lv_has ls 3 [(0, .int k1), (1, .int k2), (2, .int k3)] := hl
  refine lv_iload_n hx hb dX16_in_0 rfl (lv_at hl 0 rfl) ?_
  refine lv_iload_n hx hb dX16_in_1 rfl (lv_at hl 1 rfl) ?_
  refine lv_icmp_lt (tgt := 14) hx hb dX16_in_2 (by decide) (fun c_1 => ?_) (fun c_1 => ?_)
  · refine lv_iconst (v := 0) hx hb dX16_in_14 (by decide) ?_
    have hP9 := hP.sub (ws' := []) [] rfl
    have hD9 := hD.sub (ws' := []) [] (by decide) rfl
    refine W.widen (k := 0) (n := 0) (Nat.le_of_ble_eq_true rfl) (Nat.le_of_ble_eq_true rfl) ?_
    exact W.zret (v := 0) hx hb hr rfl (fun t ht hW => ⟨⟨0, [], rfl, (Or.inl ⟨rfl, c_1, rfl⟩), wq_B.of ht hP9 hD9⟩, hS.F ht⟩) hS.2.2 dX16_in_15
  · refine lv_iload_n hx hb dX16_in_5 rfl (lv_at hl 0 rfl) ?_
    refine lv_iload_n hx hb dX16_in_6 rfl (lv_at hl 2 rfl) ?_
    refine lv_icmp_gt (tgt := 14) hx hb dX16_in_7 (by decide) (fun c_2 => ?_) (fun c_2 => ?_)
    · refine lv_iconst (v := 0) hx hb dX16_in_14 (by decide) ?_
      have hP9 := hP.sub (ws' := []) [] rfl
      have hD9 := hD.sub (ws' := []) [] (by decide) rfl
      refine W.widen (k := 0) (n := 0) (Nat.le_of_ble_eq_true rfl) (Nat.le_of_ble_eq_true rfl) ?_
      exact W.zret (v := 0) hx hb hr rfl (fun t ht hW => ⟨⟨0, [], rfl, (Or.inr (Or.inl ⟨rfl, c_1, c_2, rfl⟩)), wq_B.of ht hP9 hD9⟩, hS.F ht⟩) hS.2.2 dX16_in_15
    · refine lv_iconst (v := 1) hx hb dX16_in_10 (by decide) ?_
      refine lv_goto (tgt := 15) hx hb dX16_in_11 (by decide) ?_
      have hP9 := hP.sub (ws' := []) [] rfl
      have hD9 := hD.sub (ws' := []) [] (by decide) rfl
      refine W.widen (k := 0) (n := 0) (Nat.le_of_ble_eq_true rfl) (Nat.le_of_ble_eq_true rfl) ?_
      exact W.zret (v := 1) hx hb hr rfl (fun t ht hW => ⟨⟨1, [], rfl, (Or.inr (Or.inr ⟨rfl, c_1, c_2, rfl⟩)), wq_B.of ht hP9 hD9⟩, hS.F ht⟩) hS.2.2 dX16_in_15
def vs_k_X16_fails_1_1 : List Cond := .code yX16_fails cX16_fails 3 (some .boolean) :: ([.fieldLink RX16 65 "AnswerFoldModel" "thrown" "I"] ++ (u_ws RX16 TX16 26))
theorem iv_k_X16_fails_1_1_X16 : ∀ w ∈ u_ws RX16 TX16 26, w ∈ vs_k_X16_fails_1_1 := (fun _ h => List.mem_cons_of_mem _ (List.mem_append_right _ (h)))
set_option maxHeartbeats 4000000 in
set_option maxRecDepth 100000 in
theorem k_X16_fails_1_1 (l : Launch) (D : va_G) (ty : Nat → ClassId) (td mi sz : Nat) (m0 : Nat) (m1 : Nat) (m2 : Nat) (m3 : Nat) (m4 : Nat) (m5 : Nat) (m6 : Nat) (m7 : Nat) (m8 : Nat) (m9 : Nat) (m10 : Nat) (m11 : Nat) (m12 : Nat) (m13 : Nat) (m14 : Nat) (m15 : Nat) (m16 : Nat) (k4 : Int32) : Met l yX16_fails vs_k_X16_fails_1_1 { frames := 0, cells := 0, slots := 0, locals := 0 } (va_Pc [.ref m0, .int 1, .int 1] (wq_P D ty td mi [(m0, .inr (20, [.int 0, .int 0, .ref m1, .ref m2, .ref m3, .int 0, .ref m4, .ref m5, .ref m6, .int k4, .ref m7, .ref m8, .ref m9, .int 0, .ref m10, .int 0, .ref m11, .ref m12, .ref m13, .int 0, .ref m14, .int 0, .int 0, .int 0, .ref m15, .ref m16]))] sz)) (va_Qi (fun (r : Int32) (u : va_W) => (r = 1 ∧ (u = [(m0, .inr (20, [.int 1, .int 0, .ref m1, .ref m2, .ref m3, .int 0, .ref m4, .ref m5, .ref m6, .int k4, .ref m7, .ref m8, .ref m9, .int 0, .ref m10, .int 0, .ref m11, .ref m12, .ref m13, .int 0, .ref m14, .int 0, .int 0, .int 0, .ref m15, .ref m16]))]))) (wq_B D (va_A [(m0, .inr (20, [.int 0, .int 0, .ref m1, .ref m2, .ref m3, .int 0, .ref m4, .ref m5, .ref m6, .int k4, .ref m7, .ref m8, .ref m9, .int 0, .ref m10, .int 0, .ref m11, .ref m12, .ref m13, .int 0, .ref m14, .int 0, .int 0, .int 0, .ref m15, .ref m16]))] sz)) (va_A [(m0, .inr (20, [.int 0, .int 0, .ref m1, .ref m2, .ref m3, .int 0, .ref m4, .ref m5, .ref m6, .int k4, .ref m7, .ref m8, .ref m9, .int 0, .ref m10, .int 0, .ref m11, .ref m12, .ref m13, .int 0, .ref m14, .int 0, .int 0, .int 0, .ref m15, .ref m16]))] sz)) 0 0 (va_A [(m0, .inr (20, [.int 0, .int 0, .ref m1, .ref m2, .ref m3, .int 0, .ref m4, .ref m5, .ref m6, .int k4, .ref m7, .ref m8, .ref m9, .int 0, .ref m10, .int 0, .ref m11, .ref m12, .ref m13, .int 0, .ref m14, .int 0, .int 0, .int 0, .ref m15, .ref m16]))] sz) := by
  refine Met.ofW (cc := cX16_fails) (maxL := 3) (ret := (some .boolean)) (by decide) rfl ?_
  intro p e s m args below meth c s₁ B hml hv
  obtain ⟨rfl, hsz, hP, hK, hD0, hE⟩ := hv
  have hx := B.exec
  have hb := B.bytes
  have hr := B.returns
  have hts := atoms_spec (ws := vs_k_X16_fails_1_1) B.pre
  have hown : s.vm.findClass RX16 = some m.cls := findClass_of_methodNamed B.named
  have hlocks := B.notSynchronized
  subst hsz
  have hD := hD0.self (sz := s.heap.size)
  generalize hAe : va_A [(m0, .inr (20, [.int 0, .int 0, .ref m1, .ref m2, .ref m3, .int 0, .ref m4, .ref m5, .ref m6, .int k4, .ref m7, .ref m8, .ref m9, .int 0, .ref m10, .int 0, .ref m11, .ref m12, .ref m13, .int 0, .ref m14, .int 0, .int 0, .int 0, .ref m15, .ref m16]))] s.heap.size = A at hD hE ⊢
  have hA : ∀ q : Nat, s.heap.size ≤ q → A q := fun q h => by rw [← hAe]; exact Or.inr h
  have hS : va_S A s.heap s.heap [] := va_S.rf
  have hP : va_P D vwCl [(m0, .inr (20, [.int 0, .int 0, .ref m1, .ref m2, .ref m3, .int 0, .ref m4, .ref m5, .ref m6, .int k4, .ref m7, .ref m8, .ref m9, .int 0, .ref m10, .int 0, .ref m11, .ref m12, .ref m13, .int 0, .ref m14, .int 0, .int 0, .int 0, .ref m15, .ref m16]))] s.heap := hP
  have hl := lv_entry ([.ref m0, .int 1, .int 1]) (n := 3) (Nat.le_of_ble_eq_true rfl)
  rw [lg_entry_eq]
  generalize (lg_sl ([.ref m0, .int 1, .int 1]) ++ List.replicate (3 - (lg_sl ([.ref m0, .int 1, .int 1])).length) Slot.unset).toArray = ls at hl ⊢
  have hl : lv_has ls 3 [(0, .ref m0), (1, .int 1), (2, .int 1)] := hl
  refine lv_iload_n hx hb dX16_fails_0 rfl (lv_at hl 1 rfl) ?_
  refine lv_if_eq (tgt := 16) hx hb dX16_fails_1 (by decide) (fun c0 => absurd c0 (by decide)) (fun _ => ?_)
  refine lv_aload_n hx hb dX16_fails_4 rfl (lv_at hl 0 rfl) ?_
  refine va_get (D := D) (ci := 20) (v := .int 0) (C := RX16) (T := TX16) (N := 26) hx hb hts iv_k_X16_fails_1_1_X16 hown hK hP 0 rfl rfl 0 (by decide) (hts (.fieldLink RX16 65 "AnswerFoldModel" "thrown" "I") (by decide +kernel)) (fun _ h9 => h9) rfl dX16_fails_5 ?_
  refine lv_if_ne (tgt := 16) hx hb dX16_fails_8 (by decide) (fun c0 => absurd (by decide) c0) (fun _ => ?_)
  refine lv_aload_n hx hb dX16_fails_11 rfl (lv_at hl 0 rfl) ?_
  refine lv_iload_n hx hb dX16_fails_12 rfl (lv_at hl 2 rfl) ?_
  refine va_put (D := D) (ci := 20) (v := .int 1) (ty := tyX16 0) (C := RX16) (T := TX16) (N := 26) hx hb hts iv_k_X16_fails_1_1_X16 tyX16 tyX16_ok nmX16 hown hK hP hD hS 0 rfl rfl 0 (by decide) (hts (.fieldLink RX16 65 "AnswerFoldModel" "thrown" "I") (by decide +kernel)) (fun _ h9 => h9) rfl (by decide +kernel) rfl rfl (Nat.le_of_ble_eq_true rfl) dX16_fails_13 (fun H locs hP hD hS => ?_)
  have hP : va_P D vwCl [(m0, .inr (20, [.int 1, .int 0, .ref m1, .ref m2, .ref m3, .int 0, .ref m4, .ref m5, .ref m6, .int k4, .ref m7, .ref m8, .ref m9, .int 0, .ref m10, .int 0, .ref m11, .ref m12, .ref m13, .int 0, .ref m14, .int 0, .int 0, .int 0, .ref m15, .ref m16]))] H := hP
  have hD : va_D A [(m0, .inr (20, [.int 1, .int 0, .ref m1, .ref m2, .ref m3, .int 0, .ref m4, .ref m5, .ref m6, .int k4, .ref m7, .ref m8, .ref m9, .int 0, .ref m10, .int 0, .ref m11, .ref m12, .ref m13, .int 0, .ref m14, .int 0, .int 0, .int 0, .ref m15, .ref m16]))] := hD
  refine lv_aload_n hx hb dX16_fails_16 rfl (lv_at hl 0 rfl) ?_
  refine va_get (D := D) (ci := 20) (v := .int 1) (C := RX16) (T := TX16) (N := 26) hx hb hts iv_k_X16_fails_1_1_X16 hown hK hP 0 rfl rfl 0 (by decide) (hts (.fieldLink RX16 65 "AnswerFoldModel" "thrown" "I") (by decide +kernel)) (fun _ h9 => h9) rfl dX16_fails_17 ?_
  refine lv_if_eq (tgt := 27) hx hb dX16_fails_20 (by decide) (fun c0 => absurd c0 (by decide)) (fun _ => ?_)
  refine lv_iconst (v := 1) hx hb dX16_fails_23 (by decide) ?_
  refine lv_goto (tgt := 28) hx hb dX16_fails_24 (by decide) ?_
  have hP9 := hP.sub (ws' := [(m0, .inr (20, [.int 1, .int 0, .ref m1, .ref m2, .ref m3, .int 0, .ref m4, .ref m5, .ref m6, .int k4, .ref m7, .ref m8, .ref m9, .int 0, .ref m10, .int 0, .ref m11, .ref m12, .ref m13, .int 0, .ref m14, .int 0, .int 0, .int 0, .ref m15, .ref m16]))]) [0] rfl
  have hD9 := hD.sub (ws' := [(m0, .inr (20, [.int 1, .int 0, .ref m1, .ref m2, .ref m3, .int 0, .ref m4, .ref m5, .ref m6, .int k4, .ref m7, .ref m8, .ref m9, .int 0, .ref m10, .int 0, .ref m11, .ref m12, .ref m13, .int 0, .ref m14, .int 0, .int 0, .int 0, .ref m15, .ref m16]))]) [0] (by decide) rfl
  refine W.widen (k := 0) (n := 0) (Nat.le_of_ble_eq_true rfl) (Nat.le_of_ble_eq_true rfl) ?_
  exact W.zret (v := 1) hx hb hr rfl (fun t ht hW => ⟨⟨1, [(m0, .inr (20, [.int 1, .int 0, .ref m1, .ref m2, .ref m3, .int 0, .ref m4, .ref m5, .ref m6, .int k4, .ref m7, .ref m8, .ref m9, .int 0, .ref m10, .int 0, .ref m11, .ref m12, .ref m13, .int 0, .ref m14, .int 0, .int 0, .int 0, .ref m15, .ref m16]))], rfl, ⟨rfl, rfl⟩, wq_B.of ht hP9 hD9⟩, hS.F ht⟩) hS.2.2 dX16_fails_28
def vs_k_X16_fails_0_1 : List Cond := .code yX16_fails cX16_fails 3 (some .boolean) :: ([.fieldLink RX16 65 "AnswerFoldModel" "thrown" "I"] ++ (u_ws RX16 TX16 26))
theorem iv_k_X16_fails_0_1_X16 : ∀ w ∈ u_ws RX16 TX16 26, w ∈ vs_k_X16_fails_0_1 := (fun _ h => List.mem_cons_of_mem _ (List.mem_append_right _ (h)))
set_option maxHeartbeats 4000000 in
set_option maxRecDepth 100000 in
theorem k_X16_fails_0_1 (l : Launch) (D : va_G) (ty : Nat → ClassId) (td mi sz : Nat) (m0 : Nat) (m1 : Nat) (m2 : Nat) (m3 : Nat) (m4 : Nat) (m5 : Nat) (m6 : Nat) (m7 : Nat) (m8 : Nat) (m9 : Nat) (m10 : Nat) (m11 : Nat) (m12 : Nat) (m13 : Nat) (m14 : Nat) (m15 : Nat) (m16 : Nat) (k4 : Int32) : Met l yX16_fails vs_k_X16_fails_0_1 { frames := 0, cells := 0, slots := 0, locals := 0 } (va_Pc [.ref m0, .int 0, .int 1] (wq_P D ty td mi [(m0, .inr (20, [.int 0, .int 0, .ref m1, .ref m2, .ref m3, .int 0, .ref m4, .ref m5, .ref m6, .int k4, .ref m7, .ref m8, .ref m9, .int 0, .ref m10, .int 0, .ref m11, .ref m12, .ref m13, .int 0, .ref m14, .int 0, .int 0, .int 0, .ref m15, .ref m16]))] sz)) (va_Qi (fun (r : Int32) (u : va_W) => (r = 0 ∧ (u = [(m0, .inr (20, [.int 0, .int 0, .ref m1, .ref m2, .ref m3, .int 0, .ref m4, .ref m5, .ref m6, .int k4, .ref m7, .ref m8, .ref m9, .int 0, .ref m10, .int 0, .ref m11, .ref m12, .ref m13, .int 0, .ref m14, .int 0, .int 0, .int 0, .ref m15, .ref m16]))]))) (wq_B D (va_A [(m0, .inr (20, [.int 0, .int 0, .ref m1, .ref m2, .ref m3, .int 0, .ref m4, .ref m5, .ref m6, .int k4, .ref m7, .ref m8, .ref m9, .int 0, .ref m10, .int 0, .ref m11, .ref m12, .ref m13, .int 0, .ref m14, .int 0, .int 0, .int 0, .ref m15, .ref m16]))] sz)) (va_A [(m0, .inr (20, [.int 0, .int 0, .ref m1, .ref m2, .ref m3, .int 0, .ref m4, .ref m5, .ref m6, .int k4, .ref m7, .ref m8, .ref m9, .int 0, .ref m10, .int 0, .ref m11, .ref m12, .ref m13, .int 0, .ref m14, .int 0, .int 0, .int 0, .ref m15, .ref m16]))] sz)) 0 0 (va_A [(m0, .inr (20, [.int 0, .int 0, .ref m1, .ref m2, .ref m3, .int 0, .ref m4, .ref m5, .ref m6, .int k4, .ref m7, .ref m8, .ref m9, .int 0, .ref m10, .int 0, .ref m11, .ref m12, .ref m13, .int 0, .ref m14, .int 0, .int 0, .int 0, .ref m15, .ref m16]))] sz) := by
  refine Met.ofW (cc := cX16_fails) (maxL := 3) (ret := (some .boolean)) (by decide) rfl ?_
  intro p e s m args below meth c s₁ B hml hv
  obtain ⟨rfl, hsz, hP, hK, hD0, hE⟩ := hv
  have hx := B.exec
  have hb := B.bytes
  have hr := B.returns
  have hts := atoms_spec (ws := vs_k_X16_fails_0_1) B.pre
  have hown : s.vm.findClass RX16 = some m.cls := findClass_of_methodNamed B.named
  have hlocks := B.notSynchronized
  subst hsz
  have hD := hD0.self (sz := s.heap.size)
  generalize hAe : va_A [(m0, .inr (20, [.int 0, .int 0, .ref m1, .ref m2, .ref m3, .int 0, .ref m4, .ref m5, .ref m6, .int k4, .ref m7, .ref m8, .ref m9, .int 0, .ref m10, .int 0, .ref m11, .ref m12, .ref m13, .int 0, .ref m14, .int 0, .int 0, .int 0, .ref m15, .ref m16]))] s.heap.size = A at hD hE ⊢
  have hA : ∀ q : Nat, s.heap.size ≤ q → A q := fun q h => by rw [← hAe]; exact Or.inr h
  have hS : va_S A s.heap s.heap [] := va_S.rf
  have hP : va_P D vwCl [(m0, .inr (20, [.int 0, .int 0, .ref m1, .ref m2, .ref m3, .int 0, .ref m4, .ref m5, .ref m6, .int k4, .ref m7, .ref m8, .ref m9, .int 0, .ref m10, .int 0, .ref m11, .ref m12, .ref m13, .int 0, .ref m14, .int 0, .int 0, .int 0, .ref m15, .ref m16]))] s.heap := hP
  have hl := lv_entry ([.ref m0, .int 0, .int 1]) (n := 3) (Nat.le_of_ble_eq_true rfl)
  rw [lg_entry_eq]
  generalize (lg_sl ([.ref m0, .int 0, .int 1]) ++ List.replicate (3 - (lg_sl ([.ref m0, .int 0, .int 1])).length) Slot.unset).toArray = ls at hl ⊢
  have hl : lv_has ls 3 [(0, .ref m0), (1, .int 0), (2, .int 1)] := hl
  refine lv_iload_n hx hb dX16_fails_0 rfl (lv_at hl 1 rfl) ?_
  refine lv_if_eq (tgt := 16) hx hb dX16_fails_1 (by decide) (fun _ => ?_) (fun c0 => absurd (by decide) c0)
  refine lv_aload_n hx hb dX16_fails_16 rfl (lv_at hl 0 rfl) ?_
  refine va_get (D := D) (ci := 20) (v := .int 0) (C := RX16) (T := TX16) (N := 26) hx hb hts iv_k_X16_fails_0_1_X16 hown hK hP 0 rfl rfl 0 (by decide) (hts (.fieldLink RX16 65 "AnswerFoldModel" "thrown" "I") (by decide +kernel)) (fun _ h9 => h9) rfl dX16_fails_17 ?_
  refine lv_if_eq (tgt := 27) hx hb dX16_fails_20 (by decide) (fun _ => ?_) (fun c0 => absurd (by decide) c0)
  refine lv_iconst (v := 0) hx hb dX16_fails_27 (by decide) ?_
  have hP9 := hP.sub (ws' := [(m0, .inr (20, [.int 0, .int 0, .ref m1, .ref m2, .ref m3, .int 0, .ref m4, .ref m5, .ref m6, .int k4, .ref m7, .ref m8, .ref m9, .int 0, .ref m10, .int 0, .ref m11, .ref m12, .ref m13, .int 0, .ref m14, .int 0, .int 0, .int 0, .ref m15, .ref m16]))]) [0] rfl
  have hD9 := hD.sub (ws' := [(m0, .inr (20, [.int 0, .int 0, .ref m1, .ref m2, .ref m3, .int 0, .ref m4, .ref m5, .ref m6, .int k4, .ref m7, .ref m8, .ref m9, .int 0, .ref m10, .int 0, .ref m11, .ref m12, .ref m13, .int 0, .ref m14, .int 0, .int 0, .int 0, .ref m15, .ref m16]))]) [0] (by decide) rfl
  refine W.widen (k := 0) (n := 0) (Nat.le_of_ble_eq_true rfl) (Nat.le_of_ble_eq_true rfl) ?_
  exact W.zret (v := 0) hx hb hr rfl (fun t ht hW => ⟨⟨0, [(m0, .inr (20, [.int 0, .int 0, .ref m1, .ref m2, .ref m3, .int 0, .ref m4, .ref m5, .ref m6, .int k4, .ref m7, .ref m8, .ref m9, .int 0, .ref m10, .int 0, .ref m11, .ref m12, .ref m13, .int 0, .ref m14, .int 0, .int 0, .int 0, .ref m15, .ref m16]))], rfl, ⟨rfl, rfl⟩, wq_B.of ht hP9 hD9⟩, hS.F ht⟩) hS.2.2 dX16_fails_28
def vs_k_X16_fails_1_2 : List Cond := .code yX16_fails cX16_fails 3 (some .boolean) :: ([.fieldLink RX16 65 "AnswerFoldModel" "thrown" "I"] ++ (u_ws RX16 TX16 26))
theorem iv_k_X16_fails_1_2_X16 : ∀ w ∈ u_ws RX16 TX16 26, w ∈ vs_k_X16_fails_1_2 := (fun _ h => List.mem_cons_of_mem _ (List.mem_append_right _ (h)))
set_option maxHeartbeats 4000000 in
set_option maxRecDepth 100000 in
theorem k_X16_fails_1_2 (l : Launch) (D : va_G) (ty : Nat → ClassId) (td mi sz : Nat) (m0 : Nat) (m1 : Nat) (m2 : Nat) (m3 : Nat) (m4 : Nat) (m5 : Nat) (m6 : Nat) (m7 : Nat) (m8 : Nat) (m9 : Nat) (m10 : Nat) (m11 : Nat) (m12 : Nat) (m13 : Nat) (m14 : Nat) (m15 : Nat) (m16 : Nat) (k4 : Int32) : Met l yX16_fails vs_k_X16_fails_1_2 { frames := 0, cells := 0, slots := 0, locals := 0 } (va_Pc [.ref m0, .int 1, .int 2] (wq_P D ty td mi [(m0, .inr (20, [.int 0, .int 0, .ref m1, .ref m2, .ref m3, .int 0, .ref m4, .ref m5, .ref m6, .int k4, .ref m7, .ref m8, .ref m9, .int 0, .ref m10, .int 0, .ref m11, .ref m12, .ref m13, .int 0, .ref m14, .int 0, .int 0, .int 0, .ref m15, .ref m16]))] sz)) (va_Qi (fun (r : Int32) (u : va_W) => (r = 1 ∧ (u = [(m0, .inr (20, [.int 2, .int 0, .ref m1, .ref m2, .ref m3, .int 0, .ref m4, .ref m5, .ref m6, .int k4, .ref m7, .ref m8, .ref m9, .int 0, .ref m10, .int 0, .ref m11, .ref m12, .ref m13, .int 0, .ref m14, .int 0, .int 0, .int 0, .ref m15, .ref m16]))]))) (wq_B D (va_A [(m0, .inr (20, [.int 0, .int 0, .ref m1, .ref m2, .ref m3, .int 0, .ref m4, .ref m5, .ref m6, .int k4, .ref m7, .ref m8, .ref m9, .int 0, .ref m10, .int 0, .ref m11, .ref m12, .ref m13, .int 0, .ref m14, .int 0, .int 0, .int 0, .ref m15, .ref m16]))] sz)) (va_A [(m0, .inr (20, [.int 0, .int 0, .ref m1, .ref m2, .ref m3, .int 0, .ref m4, .ref m5, .ref m6, .int k4, .ref m7, .ref m8, .ref m9, .int 0, .ref m10, .int 0, .ref m11, .ref m12, .ref m13, .int 0, .ref m14, .int 0, .int 0, .int 0, .ref m15, .ref m16]))] sz)) 0 0 (va_A [(m0, .inr (20, [.int 0, .int 0, .ref m1, .ref m2, .ref m3, .int 0, .ref m4, .ref m5, .ref m6, .int k4, .ref m7, .ref m8, .ref m9, .int 0, .ref m10, .int 0, .ref m11, .ref m12, .ref m13, .int 0, .ref m14, .int 0, .int 0, .int 0, .ref m15, .ref m16]))] sz) := by
  refine Met.ofW (cc := cX16_fails) (maxL := 3) (ret := (some .boolean)) (by decide) rfl ?_
  intro p e s m args below meth c s₁ B hml hv
  obtain ⟨rfl, hsz, hP, hK, hD0, hE⟩ := hv
  have hx := B.exec
  have hb := B.bytes
  have hr := B.returns
  have hts := atoms_spec (ws := vs_k_X16_fails_1_2) B.pre
  have hown : s.vm.findClass RX16 = some m.cls := findClass_of_methodNamed B.named
  have hlocks := B.notSynchronized
  subst hsz
  have hD := hD0.self (sz := s.heap.size)
  generalize hAe : va_A [(m0, .inr (20, [.int 0, .int 0, .ref m1, .ref m2, .ref m3, .int 0, .ref m4, .ref m5, .ref m6, .int k4, .ref m7, .ref m8, .ref m9, .int 0, .ref m10, .int 0, .ref m11, .ref m12, .ref m13, .int 0, .ref m14, .int 0, .int 0, .int 0, .ref m15, .ref m16]))] s.heap.size = A at hD hE ⊢
  have hA : ∀ q : Nat, s.heap.size ≤ q → A q := fun q h => by rw [← hAe]; exact Or.inr h
  have hS : va_S A s.heap s.heap [] := va_S.rf
  have hP : va_P D vwCl [(m0, .inr (20, [.int 0, .int 0, .ref m1, .ref m2, .ref m3, .int 0, .ref m4, .ref m5, .ref m6, .int k4, .ref m7, .ref m8, .ref m9, .int 0, .ref m10, .int 0, .ref m11, .ref m12, .ref m13, .int 0, .ref m14, .int 0, .int 0, .int 0, .ref m15, .ref m16]))] s.heap := hP
  have hl := lv_entry ([.ref m0, .int 1, .int 2]) (n := 3) (Nat.le_of_ble_eq_true rfl)
  rw [lg_entry_eq]
  generalize (lg_sl ([.ref m0, .int 1, .int 2]) ++ List.replicate (3 - (lg_sl ([.ref m0, .int 1, .int 2])).length) Slot.unset).toArray = ls at hl ⊢
  have hl : lv_has ls 3 [(0, .ref m0), (1, .int 1), (2, .int 2)] := hl
  refine lv_iload_n hx hb dX16_fails_0 rfl (lv_at hl 1 rfl) ?_
  refine lv_if_eq (tgt := 16) hx hb dX16_fails_1 (by decide) (fun c0 => absurd c0 (by decide)) (fun _ => ?_)
  refine lv_aload_n hx hb dX16_fails_4 rfl (lv_at hl 0 rfl) ?_
  refine va_get (D := D) (ci := 20) (v := .int 0) (C := RX16) (T := TX16) (N := 26) hx hb hts iv_k_X16_fails_1_2_X16 hown hK hP 0 rfl rfl 0 (by decide) (hts (.fieldLink RX16 65 "AnswerFoldModel" "thrown" "I") (by decide +kernel)) (fun _ h9 => h9) rfl dX16_fails_5 ?_
  refine lv_if_ne (tgt := 16) hx hb dX16_fails_8 (by decide) (fun c0 => absurd (by decide) c0) (fun _ => ?_)
  refine lv_aload_n hx hb dX16_fails_11 rfl (lv_at hl 0 rfl) ?_
  refine lv_iload_n hx hb dX16_fails_12 rfl (lv_at hl 2 rfl) ?_
  refine va_put (D := D) (ci := 20) (v := .int 2) (ty := tyX16 0) (C := RX16) (T := TX16) (N := 26) hx hb hts iv_k_X16_fails_1_2_X16 tyX16 tyX16_ok nmX16 hown hK hP hD hS 0 rfl rfl 0 (by decide) (hts (.fieldLink RX16 65 "AnswerFoldModel" "thrown" "I") (by decide +kernel)) (fun _ h9 => h9) rfl (by decide +kernel) rfl rfl (Nat.le_of_ble_eq_true rfl) dX16_fails_13 (fun H locs hP hD hS => ?_)
  have hP : va_P D vwCl [(m0, .inr (20, [.int 2, .int 0, .ref m1, .ref m2, .ref m3, .int 0, .ref m4, .ref m5, .ref m6, .int k4, .ref m7, .ref m8, .ref m9, .int 0, .ref m10, .int 0, .ref m11, .ref m12, .ref m13, .int 0, .ref m14, .int 0, .int 0, .int 0, .ref m15, .ref m16]))] H := hP
  have hD : va_D A [(m0, .inr (20, [.int 2, .int 0, .ref m1, .ref m2, .ref m3, .int 0, .ref m4, .ref m5, .ref m6, .int k4, .ref m7, .ref m8, .ref m9, .int 0, .ref m10, .int 0, .ref m11, .ref m12, .ref m13, .int 0, .ref m14, .int 0, .int 0, .int 0, .ref m15, .ref m16]))] := hD
  refine lv_aload_n hx hb dX16_fails_16 rfl (lv_at hl 0 rfl) ?_
  refine va_get (D := D) (ci := 20) (v := .int 2) (C := RX16) (T := TX16) (N := 26) hx hb hts iv_k_X16_fails_1_2_X16 hown hK hP 0 rfl rfl 0 (by decide) (hts (.fieldLink RX16 65 "AnswerFoldModel" "thrown" "I") (by decide +kernel)) (fun _ h9 => h9) rfl dX16_fails_17 ?_
  refine lv_if_eq (tgt := 27) hx hb dX16_fails_20 (by decide) (fun c0 => absurd c0 (by decide)) (fun _ => ?_)
  refine lv_iconst (v := 1) hx hb dX16_fails_23 (by decide) ?_
  refine lv_goto (tgt := 28) hx hb dX16_fails_24 (by decide) ?_
  have hP9 := hP.sub (ws' := [(m0, .inr (20, [.int 2, .int 0, .ref m1, .ref m2, .ref m3, .int 0, .ref m4, .ref m5, .ref m6, .int k4, .ref m7, .ref m8, .ref m9, .int 0, .ref m10, .int 0, .ref m11, .ref m12, .ref m13, .int 0, .ref m14, .int 0, .int 0, .int 0, .ref m15, .ref m16]))]) [0] rfl
  have hD9 := hD.sub (ws' := [(m0, .inr (20, [.int 2, .int 0, .ref m1, .ref m2, .ref m3, .int 0, .ref m4, .ref m5, .ref m6, .int k4, .ref m7, .ref m8, .ref m9, .int 0, .ref m10, .int 0, .ref m11, .ref m12, .ref m13, .int 0, .ref m14, .int 0, .int 0, .int 0, .ref m15, .ref m16]))]) [0] (by decide) rfl
  refine W.widen (k := 0) (n := 0) (Nat.le_of_ble_eq_true rfl) (Nat.le_of_ble_eq_true rfl) ?_
  exact W.zret (v := 1) hx hb hr rfl (fun t ht hW => ⟨⟨1, [(m0, .inr (20, [.int 2, .int 0, .ref m1, .ref m2, .ref m3, .int 0, .ref m4, .ref m5, .ref m6, .int k4, .ref m7, .ref m8, .ref m9, .int 0, .ref m10, .int 0, .ref m11, .ref m12, .ref m13, .int 0, .ref m14, .int 0, .int 0, .int 0, .ref m15, .ref m16]))], rfl, ⟨rfl, rfl⟩, wq_B.of ht hP9 hD9⟩, hS.F ht⟩) hS.2.2 dX16_fails_28
def vs_k_X16_fails_0_2 : List Cond := .code yX16_fails cX16_fails 3 (some .boolean) :: ([.fieldLink RX16 65 "AnswerFoldModel" "thrown" "I"] ++ (u_ws RX16 TX16 26))
theorem iv_k_X16_fails_0_2_X16 : ∀ w ∈ u_ws RX16 TX16 26, w ∈ vs_k_X16_fails_0_2 := (fun _ h => List.mem_cons_of_mem _ (List.mem_append_right _ (h)))
set_option maxHeartbeats 4000000 in
set_option maxRecDepth 100000 in
theorem k_X16_fails_0_2 (l : Launch) (D : va_G) (ty : Nat → ClassId) (td mi sz : Nat) (m0 : Nat) (m1 : Nat) (m2 : Nat) (m3 : Nat) (m4 : Nat) (m5 : Nat) (m6 : Nat) (m7 : Nat) (m8 : Nat) (m9 : Nat) (m10 : Nat) (m11 : Nat) (m12 : Nat) (m13 : Nat) (m14 : Nat) (m15 : Nat) (m16 : Nat) (k4 : Int32) : Met l yX16_fails vs_k_X16_fails_0_2 { frames := 0, cells := 0, slots := 0, locals := 0 } (va_Pc [.ref m0, .int 0, .int 2] (wq_P D ty td mi [(m0, .inr (20, [.int 0, .int 0, .ref m1, .ref m2, .ref m3, .int 0, .ref m4, .ref m5, .ref m6, .int k4, .ref m7, .ref m8, .ref m9, .int 0, .ref m10, .int 0, .ref m11, .ref m12, .ref m13, .int 0, .ref m14, .int 0, .int 0, .int 0, .ref m15, .ref m16]))] sz)) (va_Qi (fun (r : Int32) (u : va_W) => (r = 0 ∧ (u = [(m0, .inr (20, [.int 0, .int 0, .ref m1, .ref m2, .ref m3, .int 0, .ref m4, .ref m5, .ref m6, .int k4, .ref m7, .ref m8, .ref m9, .int 0, .ref m10, .int 0, .ref m11, .ref m12, .ref m13, .int 0, .ref m14, .int 0, .int 0, .int 0, .ref m15, .ref m16]))]))) (wq_B D (va_A [(m0, .inr (20, [.int 0, .int 0, .ref m1, .ref m2, .ref m3, .int 0, .ref m4, .ref m5, .ref m6, .int k4, .ref m7, .ref m8, .ref m9, .int 0, .ref m10, .int 0, .ref m11, .ref m12, .ref m13, .int 0, .ref m14, .int 0, .int 0, .int 0, .ref m15, .ref m16]))] sz)) (va_A [(m0, .inr (20, [.int 0, .int 0, .ref m1, .ref m2, .ref m3, .int 0, .ref m4, .ref m5, .ref m6, .int k4, .ref m7, .ref m8, .ref m9, .int 0, .ref m10, .int 0, .ref m11, .ref m12, .ref m13, .int 0, .ref m14, .int 0, .int 0, .int 0, .ref m15, .ref m16]))] sz)) 0 0 (va_A [(m0, .inr (20, [.int 0, .int 0, .ref m1, .ref m2, .ref m3, .int 0, .ref m4, .ref m5, .ref m6, .int k4, .ref m7, .ref m8, .ref m9, .int 0, .ref m10, .int 0, .ref m11, .ref m12, .ref m13, .int 0, .ref m14, .int 0, .int 0, .int 0, .ref m15, .ref m16]))] sz) := by
  refine Met.ofW (cc := cX16_fails) (maxL := 3) (ret := (some .boolean)) (by decide) rfl ?_
  intro p e s m args below meth c s₁ B hml hv
  obtain ⟨rfl, hsz, hP, hK, hD0, hE⟩ := hv
  have hx := B.exec
  have hb := B.bytes
  have hr := B.returns
  have hts := atoms_spec (ws := vs_k_X16_fails_0_2) B.pre
  have hown : s.vm.findClass RX16 = some m.cls := findClass_of_methodNamed B.named
  have hlocks := B.notSynchronized
  subst hsz
  have hD := hD0.self (sz := s.heap.size)
  generalize hAe : va_A [(m0, .inr (20, [.int 0, .int 0, .ref m1, .ref m2, .ref m3, .int 0, .ref m4, .ref m5, .ref m6, .int k4, .ref m7, .ref m8, .ref m9, .int 0, .ref m10, .int 0, .ref m11, .ref m12, .ref m13, .int 0, .ref m14, .int 0, .int 0, .int 0, .ref m15, .ref m16]))] s.heap.size = A at hD hE ⊢
  have hA : ∀ q : Nat, s.heap.size ≤ q → A q := fun q h => by rw [← hAe]; exact Or.inr h
  have hS : va_S A s.heap s.heap [] := va_S.rf
  have hP : va_P D vwCl [(m0, .inr (20, [.int 0, .int 0, .ref m1, .ref m2, .ref m3, .int 0, .ref m4, .ref m5, .ref m6, .int k4, .ref m7, .ref m8, .ref m9, .int 0, .ref m10, .int 0, .ref m11, .ref m12, .ref m13, .int 0, .ref m14, .int 0, .int 0, .int 0, .ref m15, .ref m16]))] s.heap := hP
  have hl := lv_entry ([.ref m0, .int 0, .int 2]) (n := 3) (Nat.le_of_ble_eq_true rfl)
  rw [lg_entry_eq]
  generalize (lg_sl ([.ref m0, .int 0, .int 2]) ++ List.replicate (3 - (lg_sl ([.ref m0, .int 0, .int 2])).length) Slot.unset).toArray = ls at hl ⊢
  have hl : lv_has ls 3 [(0, .ref m0), (1, .int 0), (2, .int 2)] := hl
  refine lv_iload_n hx hb dX16_fails_0 rfl (lv_at hl 1 rfl) ?_
  refine lv_if_eq (tgt := 16) hx hb dX16_fails_1 (by decide) (fun _ => ?_) (fun c0 => absurd (by decide) c0)
  refine lv_aload_n hx hb dX16_fails_16 rfl (lv_at hl 0 rfl) ?_
  refine va_get (D := D) (ci := 20) (v := .int 0) (C := RX16) (T := TX16) (N := 26) hx hb hts iv_k_X16_fails_0_2_X16 hown hK hP 0 rfl rfl 0 (by decide) (hts (.fieldLink RX16 65 "AnswerFoldModel" "thrown" "I") (by decide +kernel)) (fun _ h9 => h9) rfl dX16_fails_17 ?_
  refine lv_if_eq (tgt := 27) hx hb dX16_fails_20 (by decide) (fun _ => ?_) (fun c0 => absurd (by decide) c0)
  refine lv_iconst (v := 0) hx hb dX16_fails_27 (by decide) ?_
  have hP9 := hP.sub (ws' := [(m0, .inr (20, [.int 0, .int 0, .ref m1, .ref m2, .ref m3, .int 0, .ref m4, .ref m5, .ref m6, .int k4, .ref m7, .ref m8, .ref m9, .int 0, .ref m10, .int 0, .ref m11, .ref m12, .ref m13, .int 0, .ref m14, .int 0, .int 0, .int 0, .ref m15, .ref m16]))]) [0] rfl
  have hD9 := hD.sub (ws' := [(m0, .inr (20, [.int 0, .int 0, .ref m1, .ref m2, .ref m3, .int 0, .ref m4, .ref m5, .ref m6, .int k4, .ref m7, .ref m8, .ref m9, .int 0, .ref m10, .int 0, .ref m11, .ref m12, .ref m13, .int 0, .ref m14, .int 0, .int 0, .int 0, .ref m15, .ref m16]))]) [0] (by decide) rfl
  refine W.widen (k := 0) (n := 0) (Nat.le_of_ble_eq_true rfl) (Nat.le_of_ble_eq_true rfl) ?_
  exact W.zret (v := 0) hx hb hr rfl (fun t ht hW => ⟨⟨0, [(m0, .inr (20, [.int 0, .int 0, .ref m1, .ref m2, .ref m3, .int 0, .ref m4, .ref m5, .ref m6, .int k4, .ref m7, .ref m8, .ref m9, .int 0, .ref m10, .int 0, .ref m11, .ref m12, .ref m13, .int 0, .ref m14, .int 0, .int 0, .int 0, .ref m15, .ref m16]))], rfl, ⟨rfl, rfl⟩, wq_B.of ht hP9 hD9⟩, hS.F ht⟩) hS.2.2 dX16_fails_28
def vs_k_X16_fails_1_3 : List Cond := .code yX16_fails cX16_fails 3 (some .boolean) :: ([.fieldLink RX16 65 "AnswerFoldModel" "thrown" "I"] ++ (u_ws RX16 TX16 26))
theorem iv_k_X16_fails_1_3_X16 : ∀ w ∈ u_ws RX16 TX16 26, w ∈ vs_k_X16_fails_1_3 := (fun _ h => List.mem_cons_of_mem _ (List.mem_append_right _ (h)))
set_option maxHeartbeats 4000000 in
set_option maxRecDepth 100000 in
theorem k_X16_fails_1_3 (l : Launch) (D : va_G) (ty : Nat → ClassId) (td mi sz : Nat) (m0 : Nat) (m1 : Nat) (m2 : Nat) (m3 : Nat) (m4 : Nat) (m5 : Nat) (m6 : Nat) (m7 : Nat) (m8 : Nat) (m9 : Nat) (m10 : Nat) (m11 : Nat) (m12 : Nat) (m13 : Nat) (m14 : Nat) (m15 : Nat) (m16 : Nat) (k4 : Int32) : Met l yX16_fails vs_k_X16_fails_1_3 { frames := 0, cells := 0, slots := 0, locals := 0 } (va_Pc [.ref m0, .int 1, .int 3] (wq_P D ty td mi [(m0, .inr (20, [.int 0, .int 0, .ref m1, .ref m2, .ref m3, .int 0, .ref m4, .ref m5, .ref m6, .int k4, .ref m7, .ref m8, .ref m9, .int 0, .ref m10, .int 0, .ref m11, .ref m12, .ref m13, .int 0, .ref m14, .int 0, .int 0, .int 0, .ref m15, .ref m16]))] sz)) (va_Qi (fun (r : Int32) (u : va_W) => (r = 1 ∧ (u = [(m0, .inr (20, [.int 3, .int 0, .ref m1, .ref m2, .ref m3, .int 0, .ref m4, .ref m5, .ref m6, .int k4, .ref m7, .ref m8, .ref m9, .int 0, .ref m10, .int 0, .ref m11, .ref m12, .ref m13, .int 0, .ref m14, .int 0, .int 0, .int 0, .ref m15, .ref m16]))]))) (wq_B D (va_A [(m0, .inr (20, [.int 0, .int 0, .ref m1, .ref m2, .ref m3, .int 0, .ref m4, .ref m5, .ref m6, .int k4, .ref m7, .ref m8, .ref m9, .int 0, .ref m10, .int 0, .ref m11, .ref m12, .ref m13, .int 0, .ref m14, .int 0, .int 0, .int 0, .ref m15, .ref m16]))] sz)) (va_A [(m0, .inr (20, [.int 0, .int 0, .ref m1, .ref m2, .ref m3, .int 0, .ref m4, .ref m5, .ref m6, .int k4, .ref m7, .ref m8, .ref m9, .int 0, .ref m10, .int 0, .ref m11, .ref m12, .ref m13, .int 0, .ref m14, .int 0, .int 0, .int 0, .ref m15, .ref m16]))] sz)) 0 0 (va_A [(m0, .inr (20, [.int 0, .int 0, .ref m1, .ref m2, .ref m3, .int 0, .ref m4, .ref m5, .ref m6, .int k4, .ref m7, .ref m8, .ref m9, .int 0, .ref m10, .int 0, .ref m11, .ref m12, .ref m13, .int 0, .ref m14, .int 0, .int 0, .int 0, .ref m15, .ref m16]))] sz) := by
  refine Met.ofW (cc := cX16_fails) (maxL := 3) (ret := (some .boolean)) (by decide) rfl ?_
  intro p e s m args below meth c s₁ B hml hv
  obtain ⟨rfl, hsz, hP, hK, hD0, hE⟩ := hv
  have hx := B.exec
  have hb := B.bytes
  have hr := B.returns
  have hts := atoms_spec (ws := vs_k_X16_fails_1_3) B.pre
  have hown : s.vm.findClass RX16 = some m.cls := findClass_of_methodNamed B.named
  have hlocks := B.notSynchronized
  subst hsz
  have hD := hD0.self (sz := s.heap.size)
  generalize hAe : va_A [(m0, .inr (20, [.int 0, .int 0, .ref m1, .ref m2, .ref m3, .int 0, .ref m4, .ref m5, .ref m6, .int k4, .ref m7, .ref m8, .ref m9, .int 0, .ref m10, .int 0, .ref m11, .ref m12, .ref m13, .int 0, .ref m14, .int 0, .int 0, .int 0, .ref m15, .ref m16]))] s.heap.size = A at hD hE ⊢
  have hA : ∀ q : Nat, s.heap.size ≤ q → A q := fun q h => by rw [← hAe]; exact Or.inr h
  have hS : va_S A s.heap s.heap [] := va_S.rf
  have hP : va_P D vwCl [(m0, .inr (20, [.int 0, .int 0, .ref m1, .ref m2, .ref m3, .int 0, .ref m4, .ref m5, .ref m6, .int k4, .ref m7, .ref m8, .ref m9, .int 0, .ref m10, .int 0, .ref m11, .ref m12, .ref m13, .int 0, .ref m14, .int 0, .int 0, .int 0, .ref m15, .ref m16]))] s.heap := hP
  have hl := lv_entry ([.ref m0, .int 1, .int 3]) (n := 3) (Nat.le_of_ble_eq_true rfl)
  rw [lg_entry_eq]
  generalize (lg_sl ([.ref m0, .int 1, .int 3]) ++ List.replicate (3 - (lg_sl ([.ref m0, .int 1, .int 3])).length) Slot.unset).toArray = ls at hl ⊢
  have hl : lv_has ls 3 [(0, .ref m0), (1, .int 1), (2, .int 3)] := hl
  refine lv_iload_n hx hb dX16_fails_0 rfl (lv_at hl 1 rfl) ?_
  refine lv_if_eq (tgt := 16) hx hb dX16_fails_1 (by decide) (fun c0 => absurd c0 (by decide)) (fun _ => ?_)
  refine lv_aload_n hx hb dX16_fails_4 rfl (lv_at hl 0 rfl) ?_
  refine va_get (D := D) (ci := 20) (v := .int 0) (C := RX16) (T := TX16) (N := 26) hx hb hts iv_k_X16_fails_1_3_X16 hown hK hP 0 rfl rfl 0 (by decide) (hts (.fieldLink RX16 65 "AnswerFoldModel" "thrown" "I") (by decide +kernel)) (fun _ h9 => h9) rfl dX16_fails_5 ?_
  refine lv_if_ne (tgt := 16) hx hb dX16_fails_8 (by decide) (fun c0 => absurd (by decide) c0) (fun _ => ?_)
  refine lv_aload_n hx hb dX16_fails_11 rfl (lv_at hl 0 rfl) ?_
  refine lv_iload_n hx hb dX16_fails_12 rfl (lv_at hl 2 rfl) ?_
  refine va_put (D := D) (ci := 20) (v := .int 3) (ty := tyX16 0) (C := RX16) (T := TX16) (N := 26) hx hb hts iv_k_X16_fails_1_3_X16 tyX16 tyX16_ok nmX16 hown hK hP hD hS 0 rfl rfl 0 (by decide) (hts (.fieldLink RX16 65 "AnswerFoldModel" "thrown" "I") (by decide +kernel)) (fun _ h9 => h9) rfl (by decide +kernel) rfl rfl (Nat.le_of_ble_eq_true rfl) dX16_fails_13 (fun H locs hP hD hS => ?_)
  have hP : va_P D vwCl [(m0, .inr (20, [.int 3, .int 0, .ref m1, .ref m2, .ref m3, .int 0, .ref m4, .ref m5, .ref m6, .int k4, .ref m7, .ref m8, .ref m9, .int 0, .ref m10, .int 0, .ref m11, .ref m12, .ref m13, .int 0, .ref m14, .int 0, .int 0, .int 0, .ref m15, .ref m16]))] H := hP
  have hD : va_D A [(m0, .inr (20, [.int 3, .int 0, .ref m1, .ref m2, .ref m3, .int 0, .ref m4, .ref m5, .ref m6, .int k4, .ref m7, .ref m8, .ref m9, .int 0, .ref m10, .int 0, .ref m11, .ref m12, .ref m13, .int 0, .ref m14, .int 0, .int 0, .int 0, .ref m15, .ref m16]))] := hD
  refine lv_aload_n hx hb dX16_fails_16 rfl (lv_at hl 0 rfl) ?_
  refine va_get (D := D) (ci := 20) (v := .int 3) (C := RX16) (T := TX16) (N := 26) hx hb hts iv_k_X16_fails_1_3_X16 hown hK hP 0 rfl rfl 0 (by decide) (hts (.fieldLink RX16 65 "AnswerFoldModel" "thrown" "I") (by decide +kernel)) (fun _ h9 => h9) rfl dX16_fails_17 ?_
  refine lv_if_eq (tgt := 27) hx hb dX16_fails_20 (by decide) (fun c0 => absurd c0 (by decide)) (fun _ => ?_)
  refine lv_iconst (v := 1) hx hb dX16_fails_23 (by decide) ?_
  refine lv_goto (tgt := 28) hx hb dX16_fails_24 (by decide) ?_
  have hP9 := hP.sub (ws' := [(m0, .inr (20, [.int 3, .int 0, .ref m1, .ref m2, .ref m3, .int 0, .ref m4, .ref m5, .ref m6, .int k4, .ref m7, .ref m8, .ref m9, .int 0, .ref m10, .int 0, .ref m11, .ref m12, .ref m13, .int 0, .ref m14, .int 0, .int 0, .int 0, .ref m15, .ref m16]))]) [0] rfl
  have hD9 := hD.sub (ws' := [(m0, .inr (20, [.int 3, .int 0, .ref m1, .ref m2, .ref m3, .int 0, .ref m4, .ref m5, .ref m6, .int k4, .ref m7, .ref m8, .ref m9, .int 0, .ref m10, .int 0, .ref m11, .ref m12, .ref m13, .int 0, .ref m14, .int 0, .int 0, .int 0, .ref m15, .ref m16]))]) [0] (by decide) rfl
  refine W.widen (k := 0) (n := 0) (Nat.le_of_ble_eq_true rfl) (Nat.le_of_ble_eq_true rfl) ?_
  exact W.zret (v := 1) hx hb hr rfl (fun t ht hW => ⟨⟨1, [(m0, .inr (20, [.int 3, .int 0, .ref m1, .ref m2, .ref m3, .int 0, .ref m4, .ref m5, .ref m6, .int k4, .ref m7, .ref m8, .ref m9, .int 0, .ref m10, .int 0, .ref m11, .ref m12, .ref m13, .int 0, .ref m14, .int 0, .int 0, .int 0, .ref m15, .ref m16]))], rfl, ⟨rfl, rfl⟩, wq_B.of ht hP9 hD9⟩, hS.F ht⟩) hS.2.2 dX16_fails_28
def vs_k_X16_fails_0_3 : List Cond := .code yX16_fails cX16_fails 3 (some .boolean) :: ([.fieldLink RX16 65 "AnswerFoldModel" "thrown" "I"] ++ (u_ws RX16 TX16 26))
theorem iv_k_X16_fails_0_3_X16 : ∀ w ∈ u_ws RX16 TX16 26, w ∈ vs_k_X16_fails_0_3 := (fun _ h => List.mem_cons_of_mem _ (List.mem_append_right _ (h)))
set_option maxHeartbeats 4000000 in
set_option maxRecDepth 100000 in
theorem k_X16_fails_0_3 (l : Launch) (D : va_G) (ty : Nat → ClassId) (td mi sz : Nat) (m0 : Nat) (m1 : Nat) (m2 : Nat) (m3 : Nat) (m4 : Nat) (m5 : Nat) (m6 : Nat) (m7 : Nat) (m8 : Nat) (m9 : Nat) (m10 : Nat) (m11 : Nat) (m12 : Nat) (m13 : Nat) (m14 : Nat) (m15 : Nat) (m16 : Nat) (k4 : Int32) : Met l yX16_fails vs_k_X16_fails_0_3 { frames := 0, cells := 0, slots := 0, locals := 0 } (va_Pc [.ref m0, .int 0, .int 3] (wq_P D ty td mi [(m0, .inr (20, [.int 0, .int 0, .ref m1, .ref m2, .ref m3, .int 0, .ref m4, .ref m5, .ref m6, .int k4, .ref m7, .ref m8, .ref m9, .int 0, .ref m10, .int 0, .ref m11, .ref m12, .ref m13, .int 0, .ref m14, .int 0, .int 0, .int 0, .ref m15, .ref m16]))] sz)) (va_Qi (fun (r : Int32) (u : va_W) => (r = 0 ∧ (u = [(m0, .inr (20, [.int 0, .int 0, .ref m1, .ref m2, .ref m3, .int 0, .ref m4, .ref m5, .ref m6, .int k4, .ref m7, .ref m8, .ref m9, .int 0, .ref m10, .int 0, .ref m11, .ref m12, .ref m13, .int 0, .ref m14, .int 0, .int 0, .int 0, .ref m15, .ref m16]))]))) (wq_B D (va_A [(m0, .inr (20, [.int 0, .int 0, .ref m1, .ref m2, .ref m3, .int 0, .ref m4, .ref m5, .ref m6, .int k4, .ref m7, .ref m8, .ref m9, .int 0, .ref m10, .int 0, .ref m11, .ref m12, .ref m13, .int 0, .ref m14, .int 0, .int 0, .int 0, .ref m15, .ref m16]))] sz)) (va_A [(m0, .inr (20, [.int 0, .int 0, .ref m1, .ref m2, .ref m3, .int 0, .ref m4, .ref m5, .ref m6, .int k4, .ref m7, .ref m8, .ref m9, .int 0, .ref m10, .int 0, .ref m11, .ref m12, .ref m13, .int 0, .ref m14, .int 0, .int 0, .int 0, .ref m15, .ref m16]))] sz)) 0 0 (va_A [(m0, .inr (20, [.int 0, .int 0, .ref m1, .ref m2, .ref m3, .int 0, .ref m4, .ref m5, .ref m6, .int k4, .ref m7, .ref m8, .ref m9, .int 0, .ref m10, .int 0, .ref m11, .ref m12, .ref m13, .int 0, .ref m14, .int 0, .int 0, .int 0, .ref m15, .ref m16]))] sz) := by
  refine Met.ofW (cc := cX16_fails) (maxL := 3) (ret := (some .boolean)) (by decide) rfl ?_
  intro p e s m args below meth c s₁ B hml hv
  obtain ⟨rfl, hsz, hP, hK, hD0, hE⟩ := hv
  have hx := B.exec
  have hb := B.bytes
  have hr := B.returns
  have hts := atoms_spec (ws := vs_k_X16_fails_0_3) B.pre
  have hown : s.vm.findClass RX16 = some m.cls := findClass_of_methodNamed B.named
  have hlocks := B.notSynchronized
  subst hsz
  have hD := hD0.self (sz := s.heap.size)
  generalize hAe : va_A [(m0, .inr (20, [.int 0, .int 0, .ref m1, .ref m2, .ref m3, .int 0, .ref m4, .ref m5, .ref m6, .int k4, .ref m7, .ref m8, .ref m9, .int 0, .ref m10, .int 0, .ref m11, .ref m12, .ref m13, .int 0, .ref m14, .int 0, .int 0, .int 0, .ref m15, .ref m16]))] s.heap.size = A at hD hE ⊢
  have hA : ∀ q : Nat, s.heap.size ≤ q → A q := fun q h => by rw [← hAe]; exact Or.inr h
  have hS : va_S A s.heap s.heap [] := va_S.rf
  have hP : va_P D vwCl [(m0, .inr (20, [.int 0, .int 0, .ref m1, .ref m2, .ref m3, .int 0, .ref m4, .ref m5, .ref m6, .int k4, .ref m7, .ref m8, .ref m9, .int 0, .ref m10, .int 0, .ref m11, .ref m12, .ref m13, .int 0, .ref m14, .int 0, .int 0, .int 0, .ref m15, .ref m16]))] s.heap := hP
  have hl := lv_entry ([.ref m0, .int 0, .int 3]) (n := 3) (Nat.le_of_ble_eq_true rfl)
  rw [lg_entry_eq]
  generalize (lg_sl ([.ref m0, .int 0, .int 3]) ++ List.replicate (3 - (lg_sl ([.ref m0, .int 0, .int 3])).length) Slot.unset).toArray = ls at hl ⊢
  have hl : lv_has ls 3 [(0, .ref m0), (1, .int 0), (2, .int 3)] := hl
  refine lv_iload_n hx hb dX16_fails_0 rfl (lv_at hl 1 rfl) ?_
  refine lv_if_eq (tgt := 16) hx hb dX16_fails_1 (by decide) (fun _ => ?_) (fun c0 => absurd (by decide) c0)
  refine lv_aload_n hx hb dX16_fails_16 rfl (lv_at hl 0 rfl) ?_
  refine va_get (D := D) (ci := 20) (v := .int 0) (C := RX16) (T := TX16) (N := 26) hx hb hts iv_k_X16_fails_0_3_X16 hown hK hP 0 rfl rfl 0 (by decide) (hts (.fieldLink RX16 65 "AnswerFoldModel" "thrown" "I") (by decide +kernel)) (fun _ h9 => h9) rfl dX16_fails_17 ?_
  refine lv_if_eq (tgt := 27) hx hb dX16_fails_20 (by decide) (fun _ => ?_) (fun c0 => absurd (by decide) c0)
  refine lv_iconst (v := 0) hx hb dX16_fails_27 (by decide) ?_
  have hP9 := hP.sub (ws' := [(m0, .inr (20, [.int 0, .int 0, .ref m1, .ref m2, .ref m3, .int 0, .ref m4, .ref m5, .ref m6, .int k4, .ref m7, .ref m8, .ref m9, .int 0, .ref m10, .int 0, .ref m11, .ref m12, .ref m13, .int 0, .ref m14, .int 0, .int 0, .int 0, .ref m15, .ref m16]))]) [0] rfl
  have hD9 := hD.sub (ws' := [(m0, .inr (20, [.int 0, .int 0, .ref m1, .ref m2, .ref m3, .int 0, .ref m4, .ref m5, .ref m6, .int k4, .ref m7, .ref m8, .ref m9, .int 0, .ref m10, .int 0, .ref m11, .ref m12, .ref m13, .int 0, .ref m14, .int 0, .int 0, .int 0, .ref m15, .ref m16]))]) [0] (by decide) rfl
  refine W.widen (k := 0) (n := 0) (Nat.le_of_ble_eq_true rfl) (Nat.le_of_ble_eq_true rfl) ?_
  exact W.zret (v := 0) hx hb hr rfl (fun t ht hW => ⟨⟨0, [(m0, .inr (20, [.int 0, .int 0, .ref m1, .ref m2, .ref m3, .int 0, .ref m4, .ref m5, .ref m6, .int k4, .ref m7, .ref m8, .ref m9, .int 0, .ref m10, .int 0, .ref m11, .ref m12, .ref m13, .int 0, .ref m14, .int 0, .int 0, .int 0, .ref m15, .ref m16]))], rfl, ⟨rfl, rfl⟩, wq_B.of ht hP9 hD9⟩, hS.F ht⟩) hS.2.2 dX16_fails_28
def vs_k_X16_fails_1_4 : List Cond := .code yX16_fails cX16_fails 3 (some .boolean) :: ([.fieldLink RX16 65 "AnswerFoldModel" "thrown" "I"] ++ (u_ws RX16 TX16 26))
theorem iv_k_X16_fails_1_4_X16 : ∀ w ∈ u_ws RX16 TX16 26, w ∈ vs_k_X16_fails_1_4 := (fun _ h => List.mem_cons_of_mem _ (List.mem_append_right _ (h)))
set_option maxHeartbeats 4000000 in
set_option maxRecDepth 100000 in
theorem k_X16_fails_1_4 (l : Launch) (D : va_G) (ty : Nat → ClassId) (td mi sz : Nat) (m0 : Nat) (m1 : Nat) (m2 : Nat) (m3 : Nat) (m4 : Nat) (m5 : Nat) (m6 : Nat) (m7 : Nat) (m8 : Nat) (m9 : Nat) (m10 : Nat) (m11 : Nat) (m12 : Nat) (m13 : Nat) (m14 : Nat) (m15 : Nat) (m16 : Nat) (k4 : Int32) : Met l yX16_fails vs_k_X16_fails_1_4 { frames := 0, cells := 0, slots := 0, locals := 0 } (va_Pc [.ref m0, .int 1, .int 4] (wq_P D ty td mi [(m0, .inr (20, [.int 0, .int 0, .ref m1, .ref m2, .ref m3, .int 0, .ref m4, .ref m5, .ref m6, .int k4, .ref m7, .ref m8, .ref m9, .int 0, .ref m10, .int 0, .ref m11, .ref m12, .ref m13, .int 0, .ref m14, .int 0, .int 0, .int 0, .ref m15, .ref m16]))] sz)) (va_Qi (fun (r : Int32) (u : va_W) => (r = 1 ∧ (u = [(m0, .inr (20, [.int 4, .int 0, .ref m1, .ref m2, .ref m3, .int 0, .ref m4, .ref m5, .ref m6, .int k4, .ref m7, .ref m8, .ref m9, .int 0, .ref m10, .int 0, .ref m11, .ref m12, .ref m13, .int 0, .ref m14, .int 0, .int 0, .int 0, .ref m15, .ref m16]))]))) (wq_B D (va_A [(m0, .inr (20, [.int 0, .int 0, .ref m1, .ref m2, .ref m3, .int 0, .ref m4, .ref m5, .ref m6, .int k4, .ref m7, .ref m8, .ref m9, .int 0, .ref m10, .int 0, .ref m11, .ref m12, .ref m13, .int 0, .ref m14, .int 0, .int 0, .int 0, .ref m15, .ref m16]))] sz)) (va_A [(m0, .inr (20, [.int 0, .int 0, .ref m1, .ref m2, .ref m3, .int 0, .ref m4, .ref m5, .ref m6, .int k4, .ref m7, .ref m8, .ref m9, .int 0, .ref m10, .int 0, .ref m11, .ref m12, .ref m13, .int 0, .ref m14, .int 0, .int 0, .int 0, .ref m15, .ref m16]))] sz)) 0 0 (va_A [(m0, .inr (20, [.int 0, .int 0, .ref m1, .ref m2, .ref m3, .int 0, .ref m4, .ref m5, .ref m6, .int k4, .ref m7, .ref m8, .ref m9, .int 0, .ref m10, .int 0, .ref m11, .ref m12, .ref m13, .int 0, .ref m14, .int 0, .int 0, .int 0, .ref m15, .ref m16]))] sz) := by
  refine Met.ofW (cc := cX16_fails) (maxL := 3) (ret := (some .boolean)) (by decide) rfl ?_
  intro p e s m args below meth c s₁ B hml hv
  obtain ⟨rfl, hsz, hP, hK, hD0, hE⟩ := hv
  have hx := B.exec
  have hb := B.bytes
  have hr := B.returns
  have hts := atoms_spec (ws := vs_k_X16_fails_1_4) B.pre
  have hown : s.vm.findClass RX16 = some m.cls := findClass_of_methodNamed B.named
  have hlocks := B.notSynchronized
  subst hsz
  have hD := hD0.self (sz := s.heap.size)
  generalize hAe : va_A [(m0, .inr (20, [.int 0, .int 0, .ref m1, .ref m2, .ref m3, .int 0, .ref m4, .ref m5, .ref m6, .int k4, .ref m7, .ref m8, .ref m9, .int 0, .ref m10, .int 0, .ref m11, .ref m12, .ref m13, .int 0, .ref m14, .int 0, .int 0, .int 0, .ref m15, .ref m16]))] s.heap.size = A at hD hE ⊢
  have hA : ∀ q : Nat, s.heap.size ≤ q → A q := fun q h => by rw [← hAe]; exact Or.inr h
  have hS : va_S A s.heap s.heap [] := va_S.rf
  have hP : va_P D vwCl [(m0, .inr (20, [.int 0, .int 0, .ref m1, .ref m2, .ref m3, .int 0, .ref m4, .ref m5, .ref m6, .int k4, .ref m7, .ref m8, .ref m9, .int 0, .ref m10, .int 0, .ref m11, .ref m12, .ref m13, .int 0, .ref m14, .int 0, .int 0, .int 0, .ref m15, .ref m16]))] s.heap := hP
  have hl := lv_entry ([.ref m0, .int 1, .int 4]) (n := 3) (Nat.le_of_ble_eq_true rfl)
  rw [lg_entry_eq]
  generalize (lg_sl ([.ref m0, .int 1, .int 4]) ++ List.replicate (3 - (lg_sl ([.ref m0, .int 1, .int 4])).length) Slot.unset).toArray = ls at hl ⊢
  have hl : lv_has ls 3 [(0, .ref m0), (1, .int 1), (2, .int 4)] := hl
  refine lv_iload_n hx hb dX16_fails_0 rfl (lv_at hl 1 rfl) ?_
  refine lv_if_eq (tgt := 16) hx hb dX16_fails_1 (by decide) (fun c0 => absurd c0 (by decide)) (fun _ => ?_)
  refine lv_aload_n hx hb dX16_fails_4 rfl (lv_at hl 0 rfl) ?_
  refine va_get (D := D) (ci := 20) (v := .int 0) (C := RX16) (T := TX16) (N := 26) hx hb hts iv_k_X16_fails_1_4_X16 hown hK hP 0 rfl rfl 0 (by decide) (hts (.fieldLink RX16 65 "AnswerFoldModel" "thrown" "I") (by decide +kernel)) (fun _ h9 => h9) rfl dX16_fails_5 ?_
  refine lv_if_ne (tgt := 16) hx hb dX16_fails_8 (by decide) (fun c0 => absurd (by decide) c0) (fun _ => ?_)
  refine lv_aload_n hx hb dX16_fails_11 rfl (lv_at hl 0 rfl) ?_
  refine lv_iload_n hx hb dX16_fails_12 rfl (lv_at hl 2 rfl) ?_
  refine va_put (D := D) (ci := 20) (v := .int 4) (ty := tyX16 0) (C := RX16) (T := TX16) (N := 26) hx hb hts iv_k_X16_fails_1_4_X16 tyX16 tyX16_ok nmX16 hown hK hP hD hS 0 rfl rfl 0 (by decide) (hts (.fieldLink RX16 65 "AnswerFoldModel" "thrown" "I") (by decide +kernel)) (fun _ h9 => h9) rfl (by decide +kernel) rfl rfl (Nat.le_of_ble_eq_true rfl) dX16_fails_13 (fun H locs hP hD hS => ?_)
  have hP : va_P D vwCl [(m0, .inr (20, [.int 4, .int 0, .ref m1, .ref m2, .ref m3, .int 0, .ref m4, .ref m5, .ref m6, .int k4, .ref m7, .ref m8, .ref m9, .int 0, .ref m10, .int 0, .ref m11, .ref m12, .ref m13, .int 0, .ref m14, .int 0, .int 0, .int 0, .ref m15, .ref m16]))] H := hP
  have hD : va_D A [(m0, .inr (20, [.int 4, .int 0, .ref m1, .ref m2, .ref m3, .int 0, .ref m4, .ref m5, .ref m6, .int k4, .ref m7, .ref m8, .ref m9, .int 0, .ref m10, .int 0, .ref m11, .ref m12, .ref m13, .int 0, .ref m14, .int 0, .int 0, .int 0, .ref m15, .ref m16]))] := hD
  refine lv_aload_n hx hb dX16_fails_16 rfl (lv_at hl 0 rfl) ?_
  refine va_get (D := D) (ci := 20) (v := .int 4) (C := RX16) (T := TX16) (N := 26) hx hb hts iv_k_X16_fails_1_4_X16 hown hK hP 0 rfl rfl 0 (by decide) (hts (.fieldLink RX16 65 "AnswerFoldModel" "thrown" "I") (by decide +kernel)) (fun _ h9 => h9) rfl dX16_fails_17 ?_
  refine lv_if_eq (tgt := 27) hx hb dX16_fails_20 (by decide) (fun c0 => absurd c0 (by decide)) (fun _ => ?_)
  refine lv_iconst (v := 1) hx hb dX16_fails_23 (by decide) ?_
  refine lv_goto (tgt := 28) hx hb dX16_fails_24 (by decide) ?_
  have hP9 := hP.sub (ws' := [(m0, .inr (20, [.int 4, .int 0, .ref m1, .ref m2, .ref m3, .int 0, .ref m4, .ref m5, .ref m6, .int k4, .ref m7, .ref m8, .ref m9, .int 0, .ref m10, .int 0, .ref m11, .ref m12, .ref m13, .int 0, .ref m14, .int 0, .int 0, .int 0, .ref m15, .ref m16]))]) [0] rfl
  have hD9 := hD.sub (ws' := [(m0, .inr (20, [.int 4, .int 0, .ref m1, .ref m2, .ref m3, .int 0, .ref m4, .ref m5, .ref m6, .int k4, .ref m7, .ref m8, .ref m9, .int 0, .ref m10, .int 0, .ref m11, .ref m12, .ref m13, .int 0, .ref m14, .int 0, .int 0, .int 0, .ref m15, .ref m16]))]) [0] (by decide) rfl
  refine W.widen (k := 0) (n := 0) (Nat.le_of_ble_eq_true rfl) (Nat.le_of_ble_eq_true rfl) ?_
  exact W.zret (v := 1) hx hb hr rfl (fun t ht hW => ⟨⟨1, [(m0, .inr (20, [.int 4, .int 0, .ref m1, .ref m2, .ref m3, .int 0, .ref m4, .ref m5, .ref m6, .int k4, .ref m7, .ref m8, .ref m9, .int 0, .ref m10, .int 0, .ref m11, .ref m12, .ref m13, .int 0, .ref m14, .int 0, .int 0, .int 0, .ref m15, .ref m16]))], rfl, ⟨rfl, rfl⟩, wq_B.of ht hP9 hD9⟩, hS.F ht⟩) hS.2.2 dX16_fails_28
def vs_k_X16_fails_0_4 : List Cond := .code yX16_fails cX16_fails 3 (some .boolean) :: ([.fieldLink RX16 65 "AnswerFoldModel" "thrown" "I"] ++ (u_ws RX16 TX16 26))
theorem iv_k_X16_fails_0_4_X16 : ∀ w ∈ u_ws RX16 TX16 26, w ∈ vs_k_X16_fails_0_4 := (fun _ h => List.mem_cons_of_mem _ (List.mem_append_right _ (h)))
set_option maxHeartbeats 4000000 in
set_option maxRecDepth 100000 in
theorem k_X16_fails_0_4 (l : Launch) (D : va_G) (ty : Nat → ClassId) (td mi sz : Nat) (m0 : Nat) (m1 : Nat) (m2 : Nat) (m3 : Nat) (m4 : Nat) (m5 : Nat) (m6 : Nat) (m7 : Nat) (m8 : Nat) (m9 : Nat) (m10 : Nat) (m11 : Nat) (m12 : Nat) (m13 : Nat) (m14 : Nat) (m15 : Nat) (m16 : Nat) (k4 : Int32) : Met l yX16_fails vs_k_X16_fails_0_4 { frames := 0, cells := 0, slots := 0, locals := 0 } (va_Pc [.ref m0, .int 0, .int 4] (wq_P D ty td mi [(m0, .inr (20, [.int 0, .int 0, .ref m1, .ref m2, .ref m3, .int 0, .ref m4, .ref m5, .ref m6, .int k4, .ref m7, .ref m8, .ref m9, .int 0, .ref m10, .int 0, .ref m11, .ref m12, .ref m13, .int 0, .ref m14, .int 0, .int 0, .int 0, .ref m15, .ref m16]))] sz)) (va_Qi (fun (r : Int32) (u : va_W) => (r = 0 ∧ (u = [(m0, .inr (20, [.int 0, .int 0, .ref m1, .ref m2, .ref m3, .int 0, .ref m4, .ref m5, .ref m6, .int k4, .ref m7, .ref m8, .ref m9, .int 0, .ref m10, .int 0, .ref m11, .ref m12, .ref m13, .int 0, .ref m14, .int 0, .int 0, .int 0, .ref m15, .ref m16]))]))) (wq_B D (va_A [(m0, .inr (20, [.int 0, .int 0, .ref m1, .ref m2, .ref m3, .int 0, .ref m4, .ref m5, .ref m6, .int k4, .ref m7, .ref m8, .ref m9, .int 0, .ref m10, .int 0, .ref m11, .ref m12, .ref m13, .int 0, .ref m14, .int 0, .int 0, .int 0, .ref m15, .ref m16]))] sz)) (va_A [(m0, .inr (20, [.int 0, .int 0, .ref m1, .ref m2, .ref m3, .int 0, .ref m4, .ref m5, .ref m6, .int k4, .ref m7, .ref m8, .ref m9, .int 0, .ref m10, .int 0, .ref m11, .ref m12, .ref m13, .int 0, .ref m14, .int 0, .int 0, .int 0, .ref m15, .ref m16]))] sz)) 0 0 (va_A [(m0, .inr (20, [.int 0, .int 0, .ref m1, .ref m2, .ref m3, .int 0, .ref m4, .ref m5, .ref m6, .int k4, .ref m7, .ref m8, .ref m9, .int 0, .ref m10, .int 0, .ref m11, .ref m12, .ref m13, .int 0, .ref m14, .int 0, .int 0, .int 0, .ref m15, .ref m16]))] sz) := by
  refine Met.ofW (cc := cX16_fails) (maxL := 3) (ret := (some .boolean)) (by decide) rfl ?_
  intro p e s m args below meth c s₁ B hml hv
  obtain ⟨rfl, hsz, hP, hK, hD0, hE⟩ := hv
  have hx := B.exec
  have hb := B.bytes
  have hr := B.returns
  have hts := atoms_spec (ws := vs_k_X16_fails_0_4) B.pre
  have hown : s.vm.findClass RX16 = some m.cls := findClass_of_methodNamed B.named
  have hlocks := B.notSynchronized
  subst hsz
  have hD := hD0.self (sz := s.heap.size)
  generalize hAe : va_A [(m0, .inr (20, [.int 0, .int 0, .ref m1, .ref m2, .ref m3, .int 0, .ref m4, .ref m5, .ref m6, .int k4, .ref m7, .ref m8, .ref m9, .int 0, .ref m10, .int 0, .ref m11, .ref m12, .ref m13, .int 0, .ref m14, .int 0, .int 0, .int 0, .ref m15, .ref m16]))] s.heap.size = A at hD hE ⊢
  have hA : ∀ q : Nat, s.heap.size ≤ q → A q := fun q h => by rw [← hAe]; exact Or.inr h
  have hS : va_S A s.heap s.heap [] := va_S.rf
  have hP : va_P D vwCl [(m0, .inr (20, [.int 0, .int 0, .ref m1, .ref m2, .ref m3, .int 0, .ref m4, .ref m5, .ref m6, .int k4, .ref m7, .ref m8, .ref m9, .int 0, .ref m10, .int 0, .ref m11, .ref m12, .ref m13, .int 0, .ref m14, .int 0, .int 0, .int 0, .ref m15, .ref m16]))] s.heap := hP
  have hl := lv_entry ([.ref m0, .int 0, .int 4]) (n := 3) (Nat.le_of_ble_eq_true rfl)
  rw [lg_entry_eq]
  generalize (lg_sl ([.ref m0, .int 0, .int 4]) ++ List.replicate (3 - (lg_sl ([.ref m0, .int 0, .int 4])).length) Slot.unset).toArray = ls at hl ⊢
  have hl : lv_has ls 3 [(0, .ref m0), (1, .int 0), (2, .int 4)] := hl
  refine lv_iload_n hx hb dX16_fails_0 rfl (lv_at hl 1 rfl) ?_
  refine lv_if_eq (tgt := 16) hx hb dX16_fails_1 (by decide) (fun _ => ?_) (fun c0 => absurd (by decide) c0)
  refine lv_aload_n hx hb dX16_fails_16 rfl (lv_at hl 0 rfl) ?_
  refine va_get (D := D) (ci := 20) (v := .int 0) (C := RX16) (T := TX16) (N := 26) hx hb hts iv_k_X16_fails_0_4_X16 hown hK hP 0 rfl rfl 0 (by decide) (hts (.fieldLink RX16 65 "AnswerFoldModel" "thrown" "I") (by decide +kernel)) (fun _ h9 => h9) rfl dX16_fails_17 ?_
  refine lv_if_eq (tgt := 27) hx hb dX16_fails_20 (by decide) (fun _ => ?_) (fun c0 => absurd (by decide) c0)
  refine lv_iconst (v := 0) hx hb dX16_fails_27 (by decide) ?_
  have hP9 := hP.sub (ws' := [(m0, .inr (20, [.int 0, .int 0, .ref m1, .ref m2, .ref m3, .int 0, .ref m4, .ref m5, .ref m6, .int k4, .ref m7, .ref m8, .ref m9, .int 0, .ref m10, .int 0, .ref m11, .ref m12, .ref m13, .int 0, .ref m14, .int 0, .int 0, .int 0, .ref m15, .ref m16]))]) [0] rfl
  have hD9 := hD.sub (ws' := [(m0, .inr (20, [.int 0, .int 0, .ref m1, .ref m2, .ref m3, .int 0, .ref m4, .ref m5, .ref m6, .int k4, .ref m7, .ref m8, .ref m9, .int 0, .ref m10, .int 0, .ref m11, .ref m12, .ref m13, .int 0, .ref m14, .int 0, .int 0, .int 0, .ref m15, .ref m16]))]) [0] (by decide) rfl
  refine W.widen (k := 0) (n := 0) (Nat.le_of_ble_eq_true rfl) (Nat.le_of_ble_eq_true rfl) ?_
  exact W.zret (v := 0) hx hb hr rfl (fun t ht hW => ⟨⟨0, [(m0, .inr (20, [.int 0, .int 0, .ref m1, .ref m2, .ref m3, .int 0, .ref m4, .ref m5, .ref m6, .int k4, .ref m7, .ref m8, .ref m9, .int 0, .ref m10, .int 0, .ref m11, .ref m12, .ref m13, .int 0, .ref m14, .int 0, .int 0, .int 0, .ref m15, .ref m16]))], rfl, ⟨rfl, rfl⟩, wq_B.of ht hP9 hD9⟩, hS.F ht⟩) hS.2.2 dX16_fails_28
def vs_k_X16_thrown : List Cond := .code yX16_thrown cX16_thrown 1 (some .int) :: ([.fieldLink RX16 65 "AnswerFoldModel" "thrown" "I"] ++ (u_ws RX16 TX16 26))
theorem iv_k_X16_thrown_X16 : ∀ w ∈ u_ws RX16 TX16 26, w ∈ vs_k_X16_thrown := (fun _ h => List.mem_cons_of_mem _ (List.mem_append_right _ (h)))
set_option maxHeartbeats 4000000 in
set_option maxRecDepth 100000 in
theorem k_X16_thrown (l : Launch) (D : va_G) (ty : Nat → ClassId) (td mi sz : Nat) (m0 : Nat) (m1 : Nat) (m2 : Nat) (m3 : Nat) (m4 : Nat) (m5 : Nat) (m6 : Nat) (m7 : Nat) (m8 : Nat) (m9 : Nat) (m10 : Nat) (m11 : Nat) (m12 : Nat) (m13 : Nat) (m14 : Nat) (m15 : Nat) (m16 : Nat) (k1 : Int32) (k2 : Int32) (k3 : Int32) (k4 : Int32) (k5 : Int32) (k6 : Int32) : Met l yX16_thrown vs_k_X16_thrown { frames := 0, cells := 0, slots := 0, locals := 0 } (va_Pc [.ref m0] (wq_P D ty td mi [(m0, .inr (20, [.int k1, .int k2, .ref m1, .ref m2, .ref m3, .int 0, .ref m4, .ref m5, .ref m6, .int k4, .ref m7, .ref m8, .ref m9, .int k6, .ref m10, .int k3, .ref m11, .ref m12, .ref m13, .int 0, .ref m14, .int 0, .int 0, .int k5, .ref m15, .ref m16]))] sz)) (va_Qi (fun (r : Int32) (u : va_W) => (r = k1 ∧ (u = [(m0, .inr (20, [.int k1, .int k2, .ref m1, .ref m2, .ref m3, .int 0, .ref m4, .ref m5, .ref m6, .int k4, .ref m7, .ref m8, .ref m9, .int k6, .ref m10, .int k3, .ref m11, .ref m12, .ref m13, .int 0, .ref m14, .int 0, .int 0, .int k5, .ref m15, .ref m16]))]))) (wq_B D (va_A [(m0, .inr (20, [.int k1, .int k2, .ref m1, .ref m2, .ref m3, .int 0, .ref m4, .ref m5, .ref m6, .int k4, .ref m7, .ref m8, .ref m9, .int k6, .ref m10, .int k3, .ref m11, .ref m12, .ref m13, .int 0, .ref m14, .int 0, .int 0, .int k5, .ref m15, .ref m16]))] sz)) (va_A [(m0, .inr (20, [.int k1, .int k2, .ref m1, .ref m2, .ref m3, .int 0, .ref m4, .ref m5, .ref m6, .int k4, .ref m7, .ref m8, .ref m9, .int k6, .ref m10, .int k3, .ref m11, .ref m12, .ref m13, .int 0, .ref m14, .int 0, .int 0, .int k5, .ref m15, .ref m16]))] sz)) 0 0 (va_A [(m0, .inr (20, [.int k1, .int k2, .ref m1, .ref m2, .ref m3, .int 0, .ref m4, .ref m5, .ref m6, .int k4, .ref m7, .ref m8, .ref m9, .int k6, .ref m10, .int k3, .ref m11, .ref m12, .ref m13, .int 0, .ref m14, .int 0, .int 0, .int k5, .ref m15, .ref m16]))] sz) := by
  refine Met.ofW (cc := cX16_thrown) (maxL := 1) (ret := (some .int)) (by decide) rfl ?_
  intro p e s m args below meth c s₁ B hml hv
  obtain ⟨rfl, hsz, hP, hK, hD0, hE⟩ := hv
  have hx := B.exec
  have hb := B.bytes
  have hr := B.returns
  have hts := atoms_spec (ws := vs_k_X16_thrown) B.pre
  have hown : s.vm.findClass RX16 = some m.cls := findClass_of_methodNamed B.named
  have hlocks := B.notSynchronized
  subst hsz
  have hD := hD0.self (sz := s.heap.size)
  generalize hAe : va_A [(m0, .inr (20, [.int k1, .int k2, .ref m1, .ref m2, .ref m3, .int 0, .ref m4, .ref m5, .ref m6, .int k4, .ref m7, .ref m8, .ref m9, .int k6, .ref m10, .int k3, .ref m11, .ref m12, .ref m13, .int 0, .ref m14, .int 0, .int 0, .int k5, .ref m15, .ref m16]))] s.heap.size = A at hD hE ⊢
  have hA : ∀ q : Nat, s.heap.size ≤ q → A q := fun q h => by rw [← hAe]; exact Or.inr h
  have hS : va_S A s.heap s.heap [] := va_S.rf
  have hP : va_P D vwCl [(m0, .inr (20, [.int k1, .int k2, .ref m1, .ref m2, .ref m3, .int 0, .ref m4, .ref m5, .ref m6, .int k4, .ref m7, .ref m8, .ref m9, .int k6, .ref m10, .int k3, .ref m11, .ref m12, .ref m13, .int 0, .ref m14, .int 0, .int 0, .int k5, .ref m15, .ref m16]))] s.heap := hP
  have hl := lv_entry ([.ref m0]) (n := 1) (Nat.le_of_ble_eq_true rfl)
  rw [lg_entry_eq]
  generalize (lg_sl ([.ref m0]) ++ List.replicate (1 - (lg_sl ([.ref m0])).length) Slot.unset).toArray = ls at hl ⊢
  have hl : lv_has ls 1 [(0, .ref m0)] := hl
  refine lv_aload_n hx hb dX16_thrown_0 rfl (lv_at hl 0 rfl) ?_
  refine va_get (D := D) (ci := 20) (v := .int k1) (C := RX16) (T := TX16) (N := 26) hx hb hts iv_k_X16_thrown_X16 hown hK hP 0 rfl rfl 0 (by decide) (hts (.fieldLink RX16 65 "AnswerFoldModel" "thrown" "I") (by decide +kernel)) (fun _ h9 => h9) rfl dX16_thrown_1 ?_
  have hP9 := hP.sub (ws' := [(m0, .inr (20, [.int k1, .int k2, .ref m1, .ref m2, .ref m3, .int 0, .ref m4, .ref m5, .ref m6, .int k4, .ref m7, .ref m8, .ref m9, .int k6, .ref m10, .int k3, .ref m11, .ref m12, .ref m13, .int 0, .ref m14, .int 0, .int 0, .int k5, .ref m15, .ref m16]))]) [0] rfl
  have hD9 := hD.sub (ws' := [(m0, .inr (20, [.int k1, .int k2, .ref m1, .ref m2, .ref m3, .int 0, .ref m4, .ref m5, .ref m6, .int k4, .ref m7, .ref m8, .ref m9, .int k6, .ref m10, .int k3, .ref m11, .ref m12, .ref m13, .int 0, .ref m14, .int 0, .int 0, .int k5, .ref m15, .ref m16]))]) [0] (by decide) rfl
  refine W.widen (k := 0) (n := 0) (Nat.le_of_ble_eq_true rfl) (Nat.le_of_ble_eq_true rfl) ?_
  exact W.iret (v := k1) hx hb hr (fun t ht hW => ⟨⟨k1, [(m0, .inr (20, [.int k1, .int k2, .ref m1, .ref m2, .ref m3, .int 0, .ref m4, .ref m5, .ref m6, .int k4, .ref m7, .ref m8, .ref m9, .int k6, .ref m10, .int k3, .ref m11, .ref m12, .ref m13, .int 0, .ref m14, .int 0, .int 0, .int k5, .ref m15, .ref m16]))], rfl, ⟨rfl, rfl⟩, wq_B.of ht hP9 hD9⟩, hS.F ht⟩) hS.2.2 dX16_thrown_4
def vs_k_size : List Cond := .code yJx4a65c_size_8abf5 cJx4a65c_size_8abf5 1 (some .int) :: ([.fieldLink RJx4a65c 48 "java/util/ArrayList" "size" "I"] ++ (u_ws RJx4a65c TJx4a65c 3))
theorem iv_k_size_Jx4a65c : ∀ w ∈ u_ws RJx4a65c TJx4a65c 3, w ∈ vs_k_size := (fun _ h => List.mem_cons_of_mem _ (List.mem_append_right _ (h)))
set_option maxHeartbeats 4000000 in
set_option maxRecDepth 100000 in
theorem k_size (l : Launch) (D : va_G) (ty : Nat → ClassId) (td mi sz : Nat) (h0 : Nat) (h1 : Nat) (k1 : Int32) (k2 : Int32) : Met l yJx4a65c_size_8abf5 vs_k_size { frames := 0, cells := 0, slots := 0, locals := 0 } (va_Pc [.ref h0] (wq_P D ty td mi [(h0, .inr (4, [.int k1, .ref h1, .int k2]))] sz)) (va_Qi (fun (r : Int32) (u : va_W) => (r = k2 ∧ (u = [(h0, .inr (4, [.int k1, .ref h1, .int k2]))]))) (wq_B D (va_A [(h0, .inr (4, [.int k1, .ref h1, .int k2]))] sz)) (va_A [(h0, .inr (4, [.int k1, .ref h1, .int k2]))] sz)) 0 0 (va_A [(h0, .inr (4, [.int k1, .ref h1, .int k2]))] sz) := by
  refine Met.ofW (cc := cJx4a65c_size_8abf5) (maxL := 1) (ret := (some .int)) (by decide) rfl ?_
  intro p e s m args below meth c s₁ B hml hv
  obtain ⟨rfl, hsz, hP, hK, hD0, hE⟩ := hv
  have hx := B.exec
  have hb := B.bytes
  have hr := B.returns
  have hts := atoms_spec (ws := vs_k_size) B.pre
  have hown : s.vm.findClass RJx4a65c = some m.cls := findClass_of_methodNamed B.named
  have hlocks := B.notSynchronized
  subst hsz
  have hD := hD0.self (sz := s.heap.size)
  generalize hAe : va_A [(h0, .inr (4, [.int k1, .ref h1, .int k2]))] s.heap.size = A at hD hE ⊢
  have hA : ∀ q : Nat, s.heap.size ≤ q → A q := fun q h => by rw [← hAe]; exact Or.inr h
  have hS : va_S A s.heap s.heap [] := va_S.rf
  have hP : va_P D vwCl [(h0, .inr (4, [.int k1, .ref h1, .int k2]))] s.heap := hP
  have hl := lv_entry ([.ref h0]) (n := 1) (Nat.le_of_ble_eq_true rfl)
  rw [lg_entry_eq]
  generalize (lg_sl ([.ref h0]) ++ List.replicate (1 - (lg_sl ([.ref h0])).length) Slot.unset).toArray = ls at hl ⊢
  have hl : lv_has ls 1 [(0, .ref h0)] := hl
  refine lv_aload_n hx hb dJx4a65c_size_8abf5_0 rfl (lv_at hl 0 rfl) ?_
  refine va_get (D := D) (ci := 4) (v := .int k2) (C := RJx4a65c) (T := TJx4a65c) (N := 3) hx hb hts iv_k_size_Jx4a65c hown hK hP 0 rfl rfl 2 (by decide) (hts (.fieldLink RJx4a65c 48 "java/util/ArrayList" "size" "I") (by decide +kernel)) (fun _ h9 => h9) rfl dJx4a65c_size_8abf5_1 ?_
  have hP9 := hP.sub (ws' := [(h0, .inr (4, [.int k1, .ref h1, .int k2]))]) [0] rfl
  have hD9 := hD.sub (ws' := [(h0, .inr (4, [.int k1, .ref h1, .int k2]))]) [0] (by decide) rfl
  refine W.widen (k := 0) (n := 0) (Nat.le_of_ble_eq_true rfl) (Nat.le_of_ble_eq_true rfl) ?_
  exact W.iret (v := k2) hx hb hr (fun t ht hW => ⟨⟨k2, [(h0, .inr (4, [.int k1, .ref h1, .int k2]))], rfl, ⟨rfl, rfl⟩, wq_B.of ht hP9 hD9⟩, hS.F ht⟩) hS.2.2 dJx4a65c_size_8abf5_4
def vs_k_X16_noPredicate : List Cond := .code yX16_noPredicate cX16_noPredicate 2 (some .boolean) :: ([.fieldLink RX16 69 "AnswerFoldModel" "predicates" "I", .methodLink RX16 72 yX16_in, .static yX16_in, .initialized RX16] ++ (u_ws RX16 TX16 26 ++ (vs_k_X16_in_none)))
theorem iv_k_X16_noPredicate_X16 : ∀ w ∈ u_ws RX16 TX16 26, w ∈ vs_k_X16_noPredicate := (fun _ h => List.mem_cons_of_mem _ (List.mem_append_right _ (List.mem_append_left _ h)))
set_option maxRecDepth 20000 in
theorem gv_k_X16_noPredicate_0 : GoodIn vs_k_X16_noPredicate (va_wsS RX16 72 yX16_in vs_k_X16_in_none) := goodIn_app (goodIn_sub (by decide +kernel) (by decide +kernel)) (goodIn_sub (fun _ h => List.mem_cons_of_mem _ (List.mem_append_right _ (List.mem_append_right _ (h)))) (by decide +kernel))
set_option maxHeartbeats 4000000 in
set_option maxRecDepth 100000 in
theorem k_X16_noPredicate (l : Launch) (D : va_G) (ty : Nat → ClassId) (td mi sz : Nat) (m0 : Nat) (m1 : Nat) (m2 : Nat) (m3 : Nat) (m4 : Nat) (m5 : Nat) (m6 : Nat) (m7 : Nat) (m8 : Nat) (m9 : Nat) (m10 : Nat) (m11 : Nat) (m12 : Nat) (m13 : Nat) (m14 : Nat) (m15 : Nat) (m16 : Nat) (k1 : Int32) : Met l yX16_noPredicate vs_k_X16_noPredicate { frames := 1, cells := 0, slots := 0, locals := 22 } (va_Pc [.ref m0, .int k1] (wq_P D ty td mi [(m0, .inr (20, [.int 0, .int 0, .ref m1, .ref m2, .ref m3, .int 0, .ref m4, .ref m5, .ref m6, .int 0, .ref m7, .ref m8, .ref m9, .int 0, .ref m10, .int 0, .ref m11, .ref m12, .ref m13, .int 0, .ref m14, .int 0, .int 0, .int 0, .ref m15, .ref m16]))] sz)) (va_Qi (fun (r : Int32) (u : va_W) => (r = 1 ∧ (u = [(m0, .inr (20, [.int 0, .int 0, .ref m1, .ref m2, .ref m3, .int 0, .ref m4, .ref m5, .ref m6, .int 0, .ref m7, .ref m8, .ref m9, .int 0, .ref m10, .int 0, .ref m11, .ref m12, .ref m13, .int 0, .ref m14, .int 0, .int 0, .int 0, .ref m15, .ref m16]))]))) (wq_B D (va_A [(m0, .inr (20, [.int 0, .int 0, .ref m1, .ref m2, .ref m3, .int 0, .ref m4, .ref m5, .ref m6, .int 0, .ref m7, .ref m8, .ref m9, .int 0, .ref m10, .int 0, .ref m11, .ref m12, .ref m13, .int 0, .ref m14, .int 0, .int 0, .int 0, .ref m15, .ref m16]))] sz)) (va_A [(m0, .inr (20, [.int 0, .int 0, .ref m1, .ref m2, .ref m3, .int 0, .ref m4, .ref m5, .ref m6, .int 0, .ref m7, .ref m8, .ref m9, .int 0, .ref m10, .int 0, .ref m11, .ref m12, .ref m13, .int 0, .ref m14, .int 0, .int 0, .int 0, .ref m15, .ref m16]))] sz)) 0 0 (va_A [(m0, .inr (20, [.int 0, .int 0, .ref m1, .ref m2, .ref m3, .int 0, .ref m4, .ref m5, .ref m6, .int 0, .ref m7, .ref m8, .ref m9, .int 0, .ref m10, .int 0, .ref m11, .ref m12, .ref m13, .int 0, .ref m14, .int 0, .int 0, .int 0, .ref m15, .ref m16]))] sz) := by
  refine Met.ofW (cc := cX16_noPredicate) (maxL := 2) (ret := (some .boolean)) (by decide) rfl ?_
  intro p e s m args below meth c s₁ B hml hv
  obtain ⟨rfl, hsz, hP, hK, hD0, hE⟩ := hv
  have hx := B.exec
  have hb := B.bytes
  have hr := B.returns
  have hts := atoms_spec (ws := vs_k_X16_noPredicate) B.pre
  have hown : s.vm.findClass RX16 = some m.cls := findClass_of_methodNamed B.named
  have hlocks := B.notSynchronized
  subst hsz
  have hD := hD0.self (sz := s.heap.size)
  generalize hAe : va_A [(m0, .inr (20, [.int 0, .int 0, .ref m1, .ref m2, .ref m3, .int 0, .ref m4, .ref m5, .ref m6, .int 0, .ref m7, .ref m8, .ref m9, .int 0, .ref m10, .int 0, .ref m11, .ref m12, .ref m13, .int 0, .ref m14, .int 0, .int 0, .int 0, .ref m15, .ref m16]))] s.heap.size = A at hD hE ⊢
  have hA : ∀ q : Nat, s.heap.size ≤ q → A q := fun q h => by rw [← hAe]; exact Or.inr h
  have hS : va_S A s.heap s.heap [] := va_S.rf
  have hP : va_P D vwCl [(m0, .inr (20, [.int 0, .int 0, .ref m1, .ref m2, .ref m3, .int 0, .ref m4, .ref m5, .ref m6, .int 0, .ref m7, .ref m8, .ref m9, .int 0, .ref m10, .int 0, .ref m11, .ref m12, .ref m13, .int 0, .ref m14, .int 0, .int 0, .int 0, .ref m15, .ref m16]))] s.heap := hP
  have hl := lv_entry ([.ref m0, .int k1]) (n := 2) (Nat.le_of_ble_eq_true rfl)
  rw [lg_entry_eq]
  generalize (lg_sl ([.ref m0, .int k1]) ++ List.replicate (2 - (lg_sl ([.ref m0, .int k1])).length) Slot.unset).toArray = ls at hl ⊢
  have hl : lv_has ls 2 [(0, .ref m0), (1, .int k1)] := hl
  refine lv_iload_n hx hb dX16_noPredicate_0 rfl (lv_at hl 1 rfl) ?_
  refine lv_iconst (v := 0) hx hb dX16_noPredicate_1 (by decide) ?_
  refine lv_aload_n hx hb dX16_noPredicate_2 rfl (lv_at hl 0 rfl) ?_
  refine va_get (D := D) (ci := 20) (v := .int 0) (C := RX16) (T := TX16) (N := 26) hx hb hts iv_k_X16_noPredicate_X16 hown hK hP 0 rfl rfl 1 (by decide) (hts (.fieldLink RX16 69 "AnswerFoldModel" "predicates" "I") (by decide +kernel)) (fun _ h9 => h9) rfl dX16_noPredicate_3 ?_
  refine lv_iconst (v := 1) hx hb dX16_noPredicate_6 (by decide) ?_
  refine lv_isub hx hb dX16_noPredicate_7 ?_
  refine lv_topi (nm_r (e' := (-1)) (by decide) ?_)
  refine wq_i (wc := []) (wr := [(m0, .inr (20, [.int 0, .int 0, .ref m1, .ref m2, .ref m3, .int 0, .ref m4, .ref m5, .ref m6, .int 0, .ref m7, .ref m8, .ref m9, .int 0, .ref m10, .int 0, .ref m11, .ref m12, .ref m13, .int 0, .ref m14, .int 0, .int 0, .int 0, .ref m15, .ref m16]))]) (va_runS (As := [.int k1, .int 0, .int (-1)]) (rest := []) ⟨hx, hb, hml, hown, hts⟩ (k_X16_in_none l D ty td mi s.heap.size k1) (va_cwS 3 hts gv_k_X16_noPredicate_0 rfl rfl rfl (by decide +kernel) ⟨(Nat.le_of_ble_eq_true rfl), (Nat.le_of_ble_eq_true rfl)⟩) (wq_preS hP hD hK hE hS hA [] rfl (by decide)) rfl rfl hl.1 rfl (lv_room (Nat.le_of_ble_eq_true rfl)) dX16_noPredicate_8 ⟨(Nat.le_of_ble_eq_true rfl), (Nat.le_of_ble_eq_true rfl)⟩) hS hA hP hD [] [0] rfl rfl (by decide) (by decide) (fun r u H locs hw hP hD hS => ?_)
  obtain ⟨rfl, rfl⟩ := hw
  have hP : va_P D vwCl [(m0, .inr (20, [.int 0, .int 0, .ref m1, .ref m2, .ref m3, .int 0, .ref m4, .ref m5, .ref m6, .int 0, .ref m7, .ref m8, .ref m9, .int 0, .ref m10, .int 0, .ref m11, .ref m12, .ref m13, .int 0, .ref m14, .int 0, .int 0, .int 0, .ref m15, .ref m16]))] H := hP
  have hD : va_D A [(m0, .inr (20, [.int 0, .int 0, .ref m1, .ref m2, .ref m3, .int 0, .ref m4, .ref m5, .ref m6, .int 0, .ref m7, .ref m8, .ref m9, .int 0, .ref m10, .int 0, .ref m11, .ref m12, .ref m13, .int 0, .ref m14, .int 0, .int 0, .int 0, .ref m15, .ref m16]))] := hD
  refine W.widen (k := 0) (n := 0) (Nat.le_of_ble_eq_true rfl) (Nat.le_of_ble_eq_true rfl) ?_
  refine lv_if_ne (tgt := 18) hx hb dX16_noPredicate_11 (by decide) (fun c0 => absurd (by decide) c0) (fun _ => ?_)
  refine lv_iconst (v := 1) hx hb dX16_noPredicate_14 (by decide) ?_
  refine lv_goto (tgt := 19) hx hb dX16_noPredicate_15 (by decide) ?_
  have hP9 := hP.sub (ws' := [(m0, .inr (20, [.int 0, .int 0, .ref m1, .ref m2, .ref m3, .int 0, .ref m4, .ref m5, .ref m6, .int 0, .ref m7, .ref m8, .ref m9, .int 0, .ref m10, .int 0, .ref m11, .ref m12, .ref m13, .int 0, .ref m14, .int 0, .int 0, .int 0, .ref m15, .ref m16]))]) [0] rfl
  have hD9 := hD.sub (ws' := [(m0, .inr (20, [.int 0, .int 0, .ref m1, .ref m2, .ref m3, .int 0, .ref m4, .ref m5, .ref m6, .int 0, .ref m7, .ref m8, .ref m9, .int 0, .ref m10, .int 0, .ref m11, .ref m12, .ref m13, .int 0, .ref m14, .int 0, .int 0, .int 0, .ref m15, .ref m16]))]) [0] (by decide) rfl
  refine W.widen (k := 0) (n := 0) (Nat.le_of_ble_eq_true rfl) (Nat.le_of_ble_eq_true rfl) ?_
  exact W.zret (v := 1) hx hb hr rfl (fun t ht hW => ⟨⟨1, [(m0, .inr (20, [.int 0, .int 0, .ref m1, .ref m2, .ref m3, .int 0, .ref m4, .ref m5, .ref m6, .int 0, .ref m7, .ref m8, .ref m9, .int 0, .ref m10, .int 0, .ref m11, .ref m12, .ref m13, .int 0, .ref m14, .int 0, .int 0, .int 0, .ref m15, .ref m16]))], rfl, ⟨rfl, rfl⟩, wq_B.of ht hP9 hD9⟩, hS.F ht⟩) hS.2.2 dX16_noPredicate_19
def vs_k_X16_noRule : List Cond := .code yX16_noRule cX16_noRule 2 (some .boolean) :: ([.fieldLink RX16 16 "AnswerFoldModel" "rules" "Ljava/util/ArrayList;", .methodLink RX16 76 yJx4a65c_size_8abf5, .instanceMethod yJx4a65c_size_8abf5, .selects RJx4a65c yJx4a65c_size_8abf5 yJx4a65c_size_8abf5, .initialized RJx4a65c, .methodLink RX16 72 yX16_in, .static yX16_in, .initialized RX16] ++ (u_ws RX16 TX16 26 ++ (vs_k_size ++ (vs_k_X16_in_none))))
theorem iv_k_X16_noRule_X16 : ∀ w ∈ u_ws RX16 TX16 26, w ∈ vs_k_X16_noRule := (fun _ h => List.mem_cons_of_mem _ (List.mem_append_right _ (List.mem_append_left _ h)))
set_option maxRecDepth 20000 in
theorem gv_k_X16_noRule_0 : GoodIn vs_k_X16_noRule (wsV RX16 76 RJx4a65c yJx4a65c_size_8abf5 vs_k_size) := goodIn_app (goodIn_sub (by decide +kernel) (by decide +kernel)) (goodIn_sub (fun _ h => List.mem_cons_of_mem _ (List.mem_append_right _ (List.mem_append_right _ (List.mem_append_left _ h)))) (by decide +kernel))
set_option maxRecDepth 20000 in
theorem gv_k_X16_noRule_1 : GoodIn vs_k_X16_noRule (va_wsS RX16 72 yX16_in vs_k_X16_in_none) := goodIn_app (goodIn_sub (by decide +kernel) (by decide +kernel)) (goodIn_sub (fun _ h => List.mem_cons_of_mem _ (List.mem_append_right _ (List.mem_append_right _ (List.mem_append_right _ (h))))) (by decide +kernel))
set_option maxHeartbeats 4000000 in
set_option maxRecDepth 100000 in
theorem k_X16_noRule (l : Launch) (D : va_G) (ty : Nat → ClassId) (td mi sz : Nat) (m0 : Nat) (m1 : Nat) (m2 : Nat) (m3 : Nat) (m4 : Nat) (m5 : Nat) (m6 : Nat) (m7 : Nat) (m8 : Nat) (m9 : Nat) (m10 : Nat) (m11 : Nat) (m12 : Nat) (m13 : Nat) (m14 : Nat) (m15 : Nat) (m16 : Nat) (k1 : Int32) : Met l yX16_noRule vs_k_X16_noRule { frames := 1, cells := 0, slots := 0, locals := 22 } (va_Pc [.ref m0, .int k1] (wq_P D ty td mi [(m0, .inr (20, [.int 0, .int 0, .ref m1, .ref m2, .ref m3, .int 0, .ref m4, .ref m5, .ref m6, .int 0, .ref m7, .ref m8, .ref m9, .int 0, .ref m10, .int 0, .ref m11, .ref m12, .ref m13, .int 0, .ref m14, .int 0, .int 0, .int 0, .ref m15, .ref m16])), (m2, .inr (4, [.int 0, .ref td, .int 0]))] sz)) (va_Qi (fun (r : Int32) (u : va_W) => (r = 1 ∧ (u = [(m0, .inr (20, [.int 0, .int 0, .ref m1, .ref m2, .ref m3, .int 0, .ref m4, .ref m5, .ref m6, .int 0, .ref m7, .ref m8, .ref m9, .int 0, .ref m10, .int 0, .ref m11, .ref m12, .ref m13, .int 0, .ref m14, .int 0, .int 0, .int 0, .ref m15, .ref m16])), (m2, .inr (4, [.int 0, .ref td, .int 0]))]))) (wq_B D (va_A [(m0, .inr (20, [.int 0, .int 0, .ref m1, .ref m2, .ref m3, .int 0, .ref m4, .ref m5, .ref m6, .int 0, .ref m7, .ref m8, .ref m9, .int 0, .ref m10, .int 0, .ref m11, .ref m12, .ref m13, .int 0, .ref m14, .int 0, .int 0, .int 0, .ref m15, .ref m16])), (m2, .inr (4, [.int 0, .ref td, .int 0]))] sz)) (va_A [(m0, .inr (20, [.int 0, .int 0, .ref m1, .ref m2, .ref m3, .int 0, .ref m4, .ref m5, .ref m6, .int 0, .ref m7, .ref m8, .ref m9, .int 0, .ref m10, .int 0, .ref m11, .ref m12, .ref m13, .int 0, .ref m14, .int 0, .int 0, .int 0, .ref m15, .ref m16])), (m2, .inr (4, [.int 0, .ref td, .int 0]))] sz)) 0 0 (va_A [(m0, .inr (20, [.int 0, .int 0, .ref m1, .ref m2, .ref m3, .int 0, .ref m4, .ref m5, .ref m6, .int 0, .ref m7, .ref m8, .ref m9, .int 0, .ref m10, .int 0, .ref m11, .ref m12, .ref m13, .int 0, .ref m14, .int 0, .int 0, .int 0, .ref m15, .ref m16])), (m2, .inr (4, [.int 0, .ref td, .int 0]))] sz) := by
  refine Met.ofW (cc := cX16_noRule) (maxL := 2) (ret := (some .boolean)) (by decide) rfl ?_
  intro p e s m args below meth c s₁ B hml hv
  obtain ⟨rfl, hsz, hP, hK, hD0, hE⟩ := hv
  have hx := B.exec
  have hb := B.bytes
  have hr := B.returns
  have hts := atoms_spec (ws := vs_k_X16_noRule) B.pre
  have hown : s.vm.findClass RX16 = some m.cls := findClass_of_methodNamed B.named
  have hlocks := B.notSynchronized
  subst hsz
  have hD := hD0.self (sz := s.heap.size)
  generalize hAe : va_A [(m0, .inr (20, [.int 0, .int 0, .ref m1, .ref m2, .ref m3, .int 0, .ref m4, .ref m5, .ref m6, .int 0, .ref m7, .ref m8, .ref m9, .int 0, .ref m10, .int 0, .ref m11, .ref m12, .ref m13, .int 0, .ref m14, .int 0, .int 0, .int 0, .ref m15, .ref m16])), (m2, .inr (4, [.int 0, .ref td, .int 0]))] s.heap.size = A at hD hE ⊢
  have hA : ∀ q : Nat, s.heap.size ≤ q → A q := fun q h => by rw [← hAe]; exact Or.inr h
  have hS : va_S A s.heap s.heap [] := va_S.rf
  have hP : va_P D vwCl [(m0, .inr (20, [.int 0, .int 0, .ref m1, .ref m2, .ref m3, .int 0, .ref m4, .ref m5, .ref m6, .int 0, .ref m7, .ref m8, .ref m9, .int 0, .ref m10, .int 0, .ref m11, .ref m12, .ref m13, .int 0, .ref m14, .int 0, .int 0, .int 0, .ref m15, .ref m16])), (m2, .inr (4, [.int 0, .ref td, .int 0]))] s.heap := hP
  have hl := lv_entry ([.ref m0, .int k1]) (n := 2) (Nat.le_of_ble_eq_true rfl)
  rw [lg_entry_eq]
  generalize (lg_sl ([.ref m0, .int k1]) ++ List.replicate (2 - (lg_sl ([.ref m0, .int k1])).length) Slot.unset).toArray = ls at hl ⊢
  have hl : lv_has ls 2 [(0, .ref m0), (1, .int k1)] := hl
  refine lv_iload_n hx hb dX16_noRule_0 rfl (lv_at hl 1 rfl) ?_
  refine lv_iconst (v := 0) hx hb dX16_noRule_1 (by decide) ?_
  refine lv_aload_n hx hb dX16_noRule_2 rfl (lv_at hl 0 rfl) ?_
  refine va_get (D := D) (ci := 20) (v := .ref m2) (C := RX16) (T := TX16) (N := 26) hx hb hts iv_k_X16_noRule_X16 hown hK hP 0 rfl rfl 3 (by decide) (hts (.fieldLink RX16 16 "AnswerFoldModel" "rules" "Ljava/util/ArrayList;") (by decide +kernel)) (fun _ h9 => h9) rfl dX16_noRule_3 ?_
  refine wq_i (wc := [(m2, .inr (4, [.int 0, .ref td, .int 0]))]) (wr := [(m0, .inr (20, [.int 0, .int 0, .ref m1, .ref m2, .ref m3, .int 0, .ref m4, .ref m5, .ref m6, .int 0, .ref m7, .ref m8, .ref m9, .int 0, .ref m10, .int 0, .ref m11, .ref m12, .ref m13, .int 0, .ref m14, .int 0, .int 0, .int 0, .ref m15, .ref m16]))]) (va_runV (As := []) (rest := [.int 0, .int k1]) ⟨hx, hb, hml, hown, hts⟩ (k_size l D ty td mi s.heap.size m2 td 0 0) (cwV 0 hts gv_k_X16_noRule_0 rfl rfl rfl (by decide +kernel) ⟨(Nat.le_of_ble_eq_true rfl), (Nat.le_of_ble_eq_true rfl)⟩) (wq_preV hP hD hK hE hS hA [1] rfl (by decide) 1 4 rfl rfl) rfl rfl hl.1 rfl (lv_room (Nat.le_of_ble_eq_true rfl)) dX16_noRule_6 ⟨(Nat.le_of_ble_eq_true rfl), (Nat.le_of_ble_eq_true rfl)⟩) hS hA hP hD [1] [0] rfl rfl (by decide) (by decide) (fun r u H locs hw hP hD hS => ?_)
  obtain ⟨rfl, rfl⟩ := hw
  have hP : va_P D vwCl [(m0, .inr (20, [.int 0, .int 0, .ref m1, .ref m2, .ref m3, .int 0, .ref m4, .ref m5, .ref m6, .int 0, .ref m7, .ref m8, .ref m9, .int 0, .ref m10, .int 0, .ref m11, .ref m12, .ref m13, .int 0, .ref m14, .int 0, .int 0, .int 0, .ref m15, .ref m16])), (m2, .inr (4, [.int 0, .ref td, .int 0]))] H := hP
  have hD : va_D A [(m0, .inr (20, [.int 0, .int 0, .ref m1, .ref m2, .ref m3, .int 0, .ref m4, .ref m5, .ref m6, .int 0, .ref m7, .ref m8, .ref m9, .int 0, .ref m10, .int 0, .ref m11, .ref m12, .ref m13, .int 0, .ref m14, .int 0, .int 0, .int 0, .ref m15, .ref m16])), (m2, .inr (4, [.int 0, .ref td, .int 0]))] := hD
  refine W.widen (k := 0) (n := 0) (Nat.le_of_ble_eq_true rfl) (Nat.le_of_ble_eq_true rfl) ?_
  refine lv_iconst (v := 1) hx hb dX16_noRule_9 (by decide) ?_
  refine lv_isub hx hb dX16_noRule_10 ?_
  refine lv_topi (nm_r (e' := (-1)) (by decide) ?_)
  refine wq_i (wc := []) (wr := [(m0, .inr (20, [.int 0, .int 0, .ref m1, .ref m2, .ref m3, .int 0, .ref m4, .ref m5, .ref m6, .int 0, .ref m7, .ref m8, .ref m9, .int 0, .ref m10, .int 0, .ref m11, .ref m12, .ref m13, .int 0, .ref m14, .int 0, .int 0, .int 0, .ref m15, .ref m16])), (m2, .inr (4, [.int 0, .ref td, .int 0]))]) (va_runS (As := [.int k1, .int 0, .int (-1)]) (rest := []) ⟨hx, hb, hml, hown, hts⟩ (k_X16_in_none l D ty td mi H.size k1) (va_cwS 3 hts gv_k_X16_noRule_1 rfl rfl rfl (by decide +kernel) ⟨(Nat.le_of_ble_eq_true rfl), (Nat.le_of_ble_eq_true rfl)⟩) (wq_preS hP hD hK hE hS hA [] rfl (by decide)) rfl rfl hl.1 rfl (lv_room (Nat.le_of_ble_eq_true rfl)) dX16_noRule_11 ⟨(Nat.le_of_ble_eq_true rfl), (Nat.le_of_ble_eq_true rfl)⟩) hS hA hP hD [] [0, 1] rfl rfl (by decide) (by decide) (fun r u H locs hw hP hD hS => ?_)
  obtain ⟨rfl, rfl⟩ := hw
  have hP : va_P D vwCl [(m0, .inr (20, [.int 0, .int 0, .ref m1, .ref m2, .ref m3, .int 0, .ref m4, .ref m5, .ref m6, .int 0, .ref m7, .ref m8, .ref m9, .int 0, .ref m10, .int 0, .ref m11, .ref m12, .ref m13, .int 0, .ref m14, .int 0, .int 0, .int 0, .ref m15, .ref m16])), (m2, .inr (4, [.int 0, .ref td, .int 0]))] H := hP
  have hD : va_D A [(m0, .inr (20, [.int 0, .int 0, .ref m1, .ref m2, .ref m3, .int 0, .ref m4, .ref m5, .ref m6, .int 0, .ref m7, .ref m8, .ref m9, .int 0, .ref m10, .int 0, .ref m11, .ref m12, .ref m13, .int 0, .ref m14, .int 0, .int 0, .int 0, .ref m15, .ref m16])), (m2, .inr (4, [.int 0, .ref td, .int 0]))] := hD
  refine W.widen (k := 0) (n := 0) (Nat.le_of_ble_eq_true rfl) (Nat.le_of_ble_eq_true rfl) ?_
  refine lv_if_ne (tgt := 21) hx hb dX16_noRule_14 (by decide) (fun c0 => absurd (by decide) c0) (fun _ => ?_)
  refine lv_iconst (v := 1) hx hb dX16_noRule_17 (by decide) ?_
  refine lv_goto (tgt := 22) hx hb dX16_noRule_18 (by decide) ?_
  have hP9 := hP.sub (ws' := [(m0, .inr (20, [.int 0, .int 0, .ref m1, .ref m2, .ref m3, .int 0, .ref m4, .ref m5, .ref m6, .int 0, .ref m7, .ref m8, .ref m9, .int 0, .ref m10, .int 0, .ref m11, .ref m12, .ref m13, .int 0, .ref m14, .int 0, .int 0, .int 0, .ref m15, .ref m16])), (m2, .inr (4, [.int 0, .ref td, .int 0]))]) [0, 1] rfl
  have hD9 := hD.sub (ws' := [(m0, .inr (20, [.int 0, .int 0, .ref m1, .ref m2, .ref m3, .int 0, .ref m4, .ref m5, .ref m6, .int 0, .ref m7, .ref m8, .ref m9, .int 0, .ref m10, .int 0, .ref m11, .ref m12, .ref m13, .int 0, .ref m14, .int 0, .int 0, .int 0, .ref m15, .ref m16])), (m2, .inr (4, [.int 0, .ref td, .int 0]))]) [0, 1] (by decide) rfl
  refine W.widen (k := 0) (n := 0) (Nat.le_of_ble_eq_true rfl) (Nat.le_of_ble_eq_true rfl) ?_
  exact W.zret (v := 1) hx hb hr rfl (fun t ht hW => ⟨⟨1, [(m0, .inr (20, [.int 0, .int 0, .ref m1, .ref m2, .ref m3, .int 0, .ref m4, .ref m5, .ref m6, .int 0, .ref m7, .ref m8, .ref m9, .int 0, .ref m10, .int 0, .ref m11, .ref m12, .ref m13, .int 0, .ref m14, .int 0, .int 0, .int 0, .ref m15, .ref m16])), (m2, .inr (4, [.int 0, .ref td, .int 0]))], rfl, ⟨rfl, rfl⟩, wq_B.of ht hP9 hD9⟩, hS.F ht⟩) hS.2.2 dX16_noRule_22
def vs_k_X16_change : List Cond := .code yX16_change cX16_change 1 none :: ([.fieldLink RX16 80 "AnswerFoldModel" "isGround" "Z", .fieldLink RX16 84 "AnswerFoldModel" "isWalked" "Z"] ++ (u_ws RX16 TX16 26))
theorem iv_k_X16_change_X16 : ∀ w ∈ u_ws RX16 TX16 26, w ∈ vs_k_X16_change := (fun _ h => List.mem_cons_of_mem _ (List.mem_append_right _ (h)))
set_option maxHeartbeats 4000000 in
set_option maxRecDepth 100000 in
theorem k_X16_change (l : Launch) (D : va_G) (ty : Nat → ClassId) (td mi sz : Nat) (m0 : Nat) (m1 : Nat) (m2 : Nat) (m3 : Nat) (m4 : Nat) (m5 : Nat) (m6 : Nat) (m7 : Nat) (m8 : Nat) (m9 : Nat) (m10 : Nat) (m11 : Nat) (m12 : Nat) (m13 : Nat) (m14 : Nat) (m15 : Nat) (m16 : Nat) (k1 : Int32) (k2 : Int32) : Met l yX16_change vs_k_X16_change { frames := 0, cells := 0, slots := 0, locals := 0 } (va_Pc [.ref m0] (wq_P D ty td mi [(m0, .inr (20, [.int 0, .int k1, .ref m1, .ref m2, .ref m3, .int k2, .ref m4, .ref m5, .ref m6, .int 0, .ref m7, .ref m8, .ref m9, .int 0, .ref m10, .int 0, .ref m11, .ref m12, .ref m13, .int 0, .ref m14, .int 0, .int 0, .int 0, .ref m15, .ref m16]))] sz)) (va_Qv (fun u : va_W => ((u = [(m0, .inr (20, [.int 0, .int k1, .ref m1, .ref m2, .ref m3, .int k2, .ref m4, .ref m5, .ref m6, .int 0, .ref m7, .ref m8, .ref m9, .int 0, .ref m10, .int 0, .ref m11, .ref m12, .ref m13, .int 0, .ref m14, .int 0, .int 0, .int 0, .ref m15, .ref m16]))]))) (wq_B D (va_A [(m0, .inr (20, [.int 0, .int k1, .ref m1, .ref m2, .ref m3, .int k2, .ref m4, .ref m5, .ref m6, .int 0, .ref m7, .ref m8, .ref m9, .int 0, .ref m10, .int 0, .ref m11, .ref m12, .ref m13, .int 0, .ref m14, .int 0, .int 0, .int 0, .ref m15, .ref m16]))] sz)) (va_A [(m0, .inr (20, [.int 0, .int k1, .ref m1, .ref m2, .ref m3, .int k2, .ref m4, .ref m5, .ref m6, .int 0, .ref m7, .ref m8, .ref m9, .int 0, .ref m10, .int 0, .ref m11, .ref m12, .ref m13, .int 0, .ref m14, .int 0, .int 0, .int 0, .ref m15, .ref m16]))] sz)) 0 0 (va_A [(m0, .inr (20, [.int 0, .int k1, .ref m1, .ref m2, .ref m3, .int k2, .ref m4, .ref m5, .ref m6, .int 0, .ref m7, .ref m8, .ref m9, .int 0, .ref m10, .int 0, .ref m11, .ref m12, .ref m13, .int 0, .ref m14, .int 0, .int 0, .int 0, .ref m15, .ref m16]))] sz) := by
  refine Met.ofW (cc := cX16_change) (maxL := 1) (ret := none) (by decide) rfl ?_
  intro p e s m args below meth c s₁ B hml hv
  obtain ⟨rfl, hsz, hP, hK, hD0, hE⟩ := hv
  have hx := B.exec
  have hb := B.bytes
  have hr := B.returns
  have hts := atoms_spec (ws := vs_k_X16_change) B.pre
  have hown : s.vm.findClass RX16 = some m.cls := findClass_of_methodNamed B.named
  have hlocks := B.notSynchronized
  subst hsz
  have hD := hD0.self (sz := s.heap.size)
  generalize hAe : va_A [(m0, .inr (20, [.int 0, .int k1, .ref m1, .ref m2, .ref m3, .int k2, .ref m4, .ref m5, .ref m6, .int 0, .ref m7, .ref m8, .ref m9, .int 0, .ref m10, .int 0, .ref m11, .ref m12, .ref m13, .int 0, .ref m14, .int 0, .int 0, .int 0, .ref m15, .ref m16]))] s.heap.size = A at hD hE ⊢
  have hA : ∀ q : Nat, s.heap.size ≤ q → A q := fun q h => by rw [← hAe]; exact Or.inr h
  have hS : va_S A s.heap s.heap [] := va_S.rf
  have hP : va_P D vwCl [(m0, .inr (20, [.int 0, .int k1, .ref m1, .ref m2, .ref m3, .int k2, .ref m4, .ref m5, .ref m6, .int 0, .ref m7, .ref m8, .ref m9, .int 0, .ref m10, .int 0, .ref m11, .ref m12, .ref m13, .int 0, .ref m14, .int 0, .int 0, .int 0, .ref m15, .ref m16]))] s.heap := hP
  have hl := lv_entry ([.ref m0]) (n := 1) (Nat.le_of_ble_eq_true rfl)
  rw [lg_entry_eq]
  generalize (lg_sl ([.ref m0]) ++ List.replicate (1 - (lg_sl ([.ref m0])).length) Slot.unset).toArray = ls at hl ⊢
  have hl : lv_has ls 1 [(0, .ref m0)] := hl
  refine lv_aload_n hx hb dX16_change_0 rfl (lv_at hl 0 rfl) ?_
  refine lv_iconst (v := 0) hx hb dX16_change_1 (by decide) ?_
  refine va_put (D := D) (ci := 20) (v := .int 0) (ty := tyX16 9) (C := RX16) (T := TX16) (N := 26) hx hb hts iv_k_X16_change_X16 tyX16 tyX16_ok nmX16 hown hK hP hD hS 0 rfl rfl 9 (by decide) (hts (.fieldLink RX16 80 "AnswerFoldModel" "isGround" "Z") (by decide +kernel)) (fun _ h9 => h9) rfl (by decide +kernel) rfl rfl (Nat.le_of_ble_eq_true rfl) dX16_change_2 (fun H locs hP hD hS => ?_)
  have hP : va_P D vwCl [(m0, .inr (20, [.int 0, .int k1, .ref m1, .ref m2, .ref m3, .int k2, .ref m4, .ref m5, .ref m6, .int 0, .ref m7, .ref m8, .ref m9, .int 0, .ref m10, .int 0, .ref m11, .ref m12, .ref m13, .int 0, .ref m14, .int 0, .int 0, .int 0, .ref m15, .ref m16]))] H := hP
  have hD : va_D A [(m0, .inr (20, [.int 0, .int k1, .ref m1, .ref m2, .ref m3, .int k2, .ref m4, .ref m5, .ref m6, .int 0, .ref m7, .ref m8, .ref m9, .int 0, .ref m10, .int 0, .ref m11, .ref m12, .ref m13, .int 0, .ref m14, .int 0, .int 0, .int 0, .ref m15, .ref m16]))] := hD
  refine lv_aload_n hx hb dX16_change_5 rfl (lv_at hl 0 rfl) ?_
  refine lv_iconst (v := 0) hx hb dX16_change_6 (by decide) ?_
  refine va_put (D := D) (ci := 20) (v := .int 0) (ty := tyX16 23) (C := RX16) (T := TX16) (N := 26) hx hb hts iv_k_X16_change_X16 tyX16 tyX16_ok nmX16 hown hK hP hD hS 0 rfl rfl 23 (by decide) (hts (.fieldLink RX16 84 "AnswerFoldModel" "isWalked" "Z") (by decide +kernel)) (fun _ h9 => h9) rfl (by decide +kernel) rfl rfl (Nat.le_of_ble_eq_true rfl) dX16_change_7 (fun H locs hP hD hS => ?_)
  have hP : va_P D vwCl [(m0, .inr (20, [.int 0, .int k1, .ref m1, .ref m2, .ref m3, .int k2, .ref m4, .ref m5, .ref m6, .int 0, .ref m7, .ref m8, .ref m9, .int 0, .ref m10, .int 0, .ref m11, .ref m12, .ref m13, .int 0, .ref m14, .int 0, .int 0, .int 0, .ref m15, .ref m16]))] H := hP
  have hD : va_D A [(m0, .inr (20, [.int 0, .int k1, .ref m1, .ref m2, .ref m3, .int k2, .ref m4, .ref m5, .ref m6, .int 0, .ref m7, .ref m8, .ref m9, .int 0, .ref m10, .int 0, .ref m11, .ref m12, .ref m13, .int 0, .ref m14, .int 0, .int 0, .int 0, .ref m15, .ref m16]))] := hD
  have hP9 := hP.sub (ws' := [(m0, .inr (20, [.int 0, .int k1, .ref m1, .ref m2, .ref m3, .int k2, .ref m4, .ref m5, .ref m6, .int 0, .ref m7, .ref m8, .ref m9, .int 0, .ref m10, .int 0, .ref m11, .ref m12, .ref m13, .int 0, .ref m14, .int 0, .int 0, .int 0, .ref m15, .ref m16]))]) [0] rfl
  have hD9 := hD.sub (ws' := [(m0, .inr (20, [.int 0, .int k1, .ref m1, .ref m2, .ref m3, .int k2, .ref m4, .ref m5, .ref m6, .int 0, .ref m7, .ref m8, .ref m9, .int 0, .ref m10, .int 0, .ref m11, .ref m12, .ref m13, .int 0, .ref m14, .int 0, .int 0, .int 0, .ref m15, .ref m16]))]) [0] (by decide) rfl
  refine W.widen (k := 0) (n := 0) (Nat.le_of_ble_eq_true rfl) (Nat.le_of_ble_eq_true rfl) ?_
  exact W.vret hx hb hr (fun t ht hW => ⟨⟨[(m0, .inr (20, [.int 0, .int k1, .ref m1, .ref m2, .ref m3, .int k2, .ref m4, .ref m5, .ref m6, .int 0, .ref m7, .ref m8, .ref m9, .int 0, .ref m10, .int 0, .ref m11, .ref m12, .ref m13, .int 0, .ref m14, .int 0, .int 0, .int 0, .ref m15, .ref m16]))], rfl, rfl, wq_B.of ht hP9 hD9⟩, hS.F ht⟩) hS.2.2 dX16_change_10
def vs_k_X16_addPredicate : List Cond := .code yX16_addPredicate cX16_addPredicate 2 (some .int) :: ([.fieldLink RX16 65 "AnswerFoldModel" "thrown" "I", .methodLink RX16 72 yX16_in, .static yX16_in, .initialized RX16, .methodLink RX16 87 yX16_fails, .instanceMethod yX16_fails, .selects RX16 yX16_fails yX16_fails, .fieldLink RX16 69 "AnswerFoldModel" "predicates" "I", .fieldLink RX16 7 "AnswerFoldModel" "places" "[I", .methodLink RX16 91 yX16_change, .instanceMethod yX16_change, .selects RX16 yX16_change yX16_change] ++ (u_ws RX16 TX16 26 ++ (vs_k_X16_in ++ (vs_k_X16_fails_1_1 ++ (vs_k_X16_fails_0_1 ++ (vs_k_X16_fails_0_2 ++ (vs_k_X16_change)))))))
theorem iv_k_X16_addPredicate_X16 : ∀ w ∈ u_ws RX16 TX16 26, w ∈ vs_k_X16_addPredicate := (fun _ h => List.mem_cons_of_mem _ (List.mem_append_right _ (List.mem_append_left _ h)))
set_option maxRecDepth 20000 in
theorem gv_k_X16_addPredicate_0 : GoodIn vs_k_X16_addPredicate (va_wsS RX16 72 yX16_in vs_k_X16_in) := goodIn_app (goodIn_sub (by decide +kernel) (by decide +kernel)) (goodIn_sub (fun _ h => List.mem_cons_of_mem _ (List.mem_append_right _ (List.mem_append_right _ (List.mem_append_left _ h)))) (by decide +kernel))
set_option maxRecDepth 20000 in
theorem gv_k_X16_addPredicate_1 : GoodIn vs_k_X16_addPredicate (wsV RX16 87 RX16 yX16_fails vs_k_X16_fails_1_1) := goodIn_app (goodIn_sub (by decide +kernel) (by decide +kernel)) (goodIn_sub (fun _ h => List.mem_cons_of_mem _ (List.mem_append_right _ (List.mem_append_right _ (List.mem_append_right _ (List.mem_append_left _ h))))) (by decide +kernel))
set_option maxRecDepth 20000 in
theorem gv_k_X16_addPredicate_2 : GoodIn vs_k_X16_addPredicate (wsV RX16 87 RX16 yX16_fails vs_k_X16_fails_1_1) := goodIn_app (goodIn_sub (by decide +kernel) (by decide +kernel)) (goodIn_sub (fun _ h => List.mem_cons_of_mem _ (List.mem_append_right _ (List.mem_append_right _ (List.mem_append_right _ (List.mem_append_left _ h))))) (by decide +kernel))
set_option maxRecDepth 20000 in
theorem gv_k_X16_addPredicate_3 : GoodIn vs_k_X16_addPredicate (wsV RX16 87 RX16 yX16_fails vs_k_X16_fails_0_1) := goodIn_app (goodIn_sub (by decide +kernel) (by decide +kernel)) (goodIn_sub (fun _ h => List.mem_cons_of_mem _ (List.mem_append_right _ (List.mem_append_right _ (List.mem_append_right _ (List.mem_append_right _ (List.mem_append_left _ h)))))) (by decide +kernel))
set_option maxRecDepth 20000 in
theorem gv_k_X16_addPredicate_4 : GoodIn vs_k_X16_addPredicate (wsV RX16 87 RX16 yX16_fails vs_k_X16_fails_0_2) := goodIn_app (goodIn_sub (by decide +kernel) (by decide +kernel)) (goodIn_sub (fun _ h => List.mem_cons_of_mem _ (List.mem_append_right _ (List.mem_append_right _ (List.mem_append_right _ (List.mem_append_right _ (List.mem_append_right _ (List.mem_append_left _ h))))))) (by decide +kernel))
set_option maxRecDepth 20000 in
theorem gv_k_X16_addPredicate_5 : GoodIn vs_k_X16_addPredicate (wsV RX16 91 RX16 yX16_change vs_k_X16_change) := goodIn_app (goodIn_sub (by decide +kernel) (by decide +kernel)) (goodIn_sub (fun _ h => List.mem_cons_of_mem _ (List.mem_append_right _ (List.mem_append_right _ (List.mem_append_right _ (List.mem_append_right _ (List.mem_append_right _ (List.mem_append_right _ (h)))))))) (by decide +kernel))
set_option maxHeartbeats 4000000 in
set_option maxRecDepth 100000 in
theorem k_X16_addPredicate (l : Launch) (D : va_G) (ty : Nat → ClassId) (td mi sz : Nat) (m0 : Nat) (m1 : Nat) (m2 : Nat) (m3 : Nat) (m4 : Nat) (m5 : Nat) (m6 : Nat) (m7 : Nat) (m8 : Nat) (m9 : Nat) (m10 : Nat) (m11 : Nat) (m12 : Nat) (m13 : Nat) (m14 : Nat) (m15 : Nat) (m16 : Nat) (k1 : Int32) : Met l yX16_addPredicate vs_k_X16_addPredicate { frames := 1, cells := 0, slots := 0, locals := 22 } (va_Pc [.ref m0, .int k1] (wq_P D ty td mi [(m0, .inr (20, [.int 0, .int 0, .ref m1, .ref m2, .ref m3, .int 0, .ref m4, .ref m5, .ref m6, .int 0, .ref m7, .ref m8, .ref m9, .int 0, .ref m10, .int 0, .ref m11, .ref m12, .ref m13, .int 0, .ref m14, .int 0, .int 0, .int 0, .ref m15, .ref m16])), (m1, .inl (ty 0, 6, .inl (fun _ => 0)))] sz)) (va_Qi (fun (r : Int32) (u : va_W) => (r = 0 ∧ (k1 < 0) ∧ (u = [(m0, .inr (20, [.int 1, .int 0, .ref m1, .ref m2, .ref m3, .int 0, .ref m4, .ref m5, .ref m6, .int 0, .ref m7, .ref m8, .ref m9, .int 0, .ref m10, .int 0, .ref m11, .ref m12, .ref m13, .int 0, .ref m14, .int 0, .int 0, .int 0, .ref m15, .ref m16]))])) ∨ (r = 0 ∧ (¬ (k1 < 0)) ∧ (2 < k1) ∧ (u = [(m0, .inr (20, [.int 1, .int 0, .ref m1, .ref m2, .ref m3, .int 0, .ref m4, .ref m5, .ref m6, .int 0, .ref m7, .ref m8, .ref m9, .int 0, .ref m10, .int 0, .ref m11, .ref m12, .ref m13, .int 0, .ref m14, .int 0, .int 0, .int 0, .ref m15, .ref m16]))])) ∨ (r = 0 ∧ (¬ (k1 < 0)) ∧ (¬ (2 < k1)) ∧ (u = [(m0, .inr (20, [.int 0, .int 1, .ref m1, .ref m2, .ref m3, .int 0, .ref m4, .ref m5, .ref m6, .int 0, .ref m7, .ref m8, .ref m9, .int 0, .ref m10, .int 0, .ref m11, .ref m12, .ref m13, .int 0, .ref m14, .int 0, .int 0, .int 0, .ref m15, .ref m16]))]))) (wq_B D (va_A [(m0, .inr (20, [.int 0, .int 0, .ref m1, .ref m2, .ref m3, .int 0, .ref m4, .ref m5, .ref m6, .int 0, .ref m7, .ref m8, .ref m9, .int 0, .ref m10, .int 0, .ref m11, .ref m12, .ref m13, .int 0, .ref m14, .int 0, .int 0, .int 0, .ref m15, .ref m16])), (m1, .inl (ty 0, 6, .inl (fun _ => 0)))] sz)) (va_A [(m0, .inr (20, [.int 0, .int 0, .ref m1, .ref m2, .ref m3, .int 0, .ref m4, .ref m5, .ref m6, .int 0, .ref m7, .ref m8, .ref m9, .int 0, .ref m10, .int 0, .ref m11, .ref m12, .ref m13, .int 0, .ref m14, .int 0, .int 0, .int 0, .ref m15, .ref m16])), (m1, .inl (ty 0, 6, .inl (fun _ => 0)))] sz)) 0 0 (va_A [(m0, .inr (20, [.int 0, .int 0, .ref m1, .ref m2, .ref m3, .int 0, .ref m4, .ref m5, .ref m6, .int 0, .ref m7, .ref m8, .ref m9, .int 0, .ref m10, .int 0, .ref m11, .ref m12, .ref m13, .int 0, .ref m14, .int 0, .int 0, .int 0, .ref m15, .ref m16])), (m1, .inl (ty 0, 6, .inl (fun _ => 0)))] sz) := by
  refine Met.ofW (cc := cX16_addPredicate) (maxL := 2) (ret := (some .int)) (by decide) rfl ?_
  intro p e s m args below meth c s₁ B hml hv
  obtain ⟨rfl, hsz, hP, hK, hD0, hE⟩ := hv
  have hx := B.exec
  have hb := B.bytes
  have hr := B.returns
  have hts := atoms_spec (ws := vs_k_X16_addPredicate) B.pre
  have hown : s.vm.findClass RX16 = some m.cls := findClass_of_methodNamed B.named
  have hlocks := B.notSynchronized
  subst hsz
  have hD := hD0.self (sz := s.heap.size)
  generalize hAe : va_A [(m0, .inr (20, [.int 0, .int 0, .ref m1, .ref m2, .ref m3, .int 0, .ref m4, .ref m5, .ref m6, .int 0, .ref m7, .ref m8, .ref m9, .int 0, .ref m10, .int 0, .ref m11, .ref m12, .ref m13, .int 0, .ref m14, .int 0, .int 0, .int 0, .ref m15, .ref m16])), (m1, .inl (ty 0, 6, .inl (fun _ => 0)))] s.heap.size = A at hD hE ⊢
  have hA : ∀ q : Nat, s.heap.size ≤ q → A q := fun q h => by rw [← hAe]; exact Or.inr h
  have hS : va_S A s.heap s.heap [] := va_S.rf
  have hP : va_P D vwCl [(m0, .inr (20, [.int 0, .int 0, .ref m1, .ref m2, .ref m3, .int 0, .ref m4, .ref m5, .ref m6, .int 0, .ref m7, .ref m8, .ref m9, .int 0, .ref m10, .int 0, .ref m11, .ref m12, .ref m13, .int 0, .ref m14, .int 0, .int 0, .int 0, .ref m15, .ref m16])), (m1, .inl (ty 0, 6, .inl (fun _ => 0)))] s.heap := hP
  have hl := lv_entry ([.ref m0, .int k1]) (n := 2) (Nat.le_of_ble_eq_true rfl)
  rw [lg_entry_eq]
  generalize (lg_sl ([.ref m0, .int k1]) ++ List.replicate (2 - (lg_sl ([.ref m0, .int k1])).length) Slot.unset).toArray = ls at hl ⊢
  have hl : lv_has ls 2 [(0, .ref m0), (1, .int k1)] := hl
  refine lv_aload_n hx hb dX16_addPredicate_0 rfl (lv_at hl 0 rfl) ?_
  refine lv_iconst (v := 0) hx hb dX16_addPredicate_1 (by decide) ?_
  refine va_put (D := D) (ci := 20) (v := .int 0) (ty := tyX16 0) (C := RX16) (T := TX16) (N := 26) hx hb hts iv_k_X16_addPredicate_X16 tyX16 tyX16_ok nmX16 hown hK hP hD hS 0 rfl rfl 0 (by decide) (hts (.fieldLink RX16 65 "AnswerFoldModel" "thrown" "I") (by decide +kernel)) (fun _ h9 => h9) rfl (by decide +kernel) rfl rfl (Nat.le_of_ble_eq_true rfl) dX16_addPredicate_2 (fun H locs hP hD hS => ?_)
  have hP : va_P D vwCl [(m0, .inr (20, [.int 0, .int 0, .ref m1, .ref m2, .ref m3, .int 0, .ref m4, .ref m5, .ref m6, .int 0, .ref m7, .ref m8, .ref m9, .int 0, .ref m10, .int 0, .ref m11, .ref m12, .ref m13, .int 0, .ref m14, .int 0, .int 0, .int 0, .ref m15, .ref m16])), (m1, .inl (ty 0, 6, .inl (fun _ => 0)))] H := hP
  have hD : va_D A [(m0, .inr (20, [.int 0, .int 0, .ref m1, .ref m2, .ref m3, .int 0, .ref m4, .ref m5, .ref m6, .int 0, .ref m7, .ref m8, .ref m9, .int 0, .ref m10, .int 0, .ref m11, .ref m12, .ref m13, .int 0, .ref m14, .int 0, .int 0, .int 0, .ref m15, .ref m16])), (m1, .inl (ty 0, 6, .inl (fun _ => 0)))] := hD
  refine lv_aload_n hx hb dX16_addPredicate_5 rfl (lv_at hl 0 rfl) ?_
  refine lv_iload_n hx hb dX16_addPredicate_6 rfl (lv_at hl 1 rfl) ?_
  refine lv_iconst (v := 0) hx hb dX16_addPredicate_7 (by decide) ?_
  refine lv_iconst (v := 2) hx hb dX16_addPredicate_8 (by decide) ?_
  refine wq_i (wc := []) (wr := [(m0, .inr (20, [.int 0, .int 0, .ref m1, .ref m2, .ref m3, .int 0, .ref m4, .ref m5, .ref m6, .int 0, .ref m7, .ref m8, .ref m9, .int 0, .ref m10, .int 0, .ref m11, .ref m12, .ref m13, .int 0, .ref m14, .int 0, .int 0, .int 0, .ref m15, .ref m16])), (m1, .inl (ty 0, 6, .inl (fun _ => 0)))]) (va_runS (As := [.int k1, .int 0, .int 2]) (rest := [.ref m0]) ⟨hx, hb, hml, hown, hts⟩ (k_X16_in l D ty td mi H.size k1 0 2) (va_cwS 3 hts gv_k_X16_addPredicate_0 rfl rfl rfl (by decide +kernel) ⟨(Nat.le_of_ble_eq_true rfl), (Nat.le_of_ble_eq_true rfl)⟩) (wq_preS hP hD hK hE hS hA [] rfl (by decide)) rfl rfl hl.1 rfl (lv_room (Nat.le_of_ble_eq_true rfl)) dX16_addPredicate_9 ⟨(Nat.le_of_ble_eq_true rfl), (Nat.le_of_ble_eq_true rfl)⟩) hS hA hP hD [] [0, 1] rfl rfl (by decide) (by decide) (fun r u H locs hw hP hD hS => ?_)
  rcases hw with ⟨rfl, c_1, rfl⟩ | ⟨rfl, c_2, c_3, rfl⟩ | ⟨rfl, c_4, c_5, rfl⟩
  · have hP : va_P D vwCl [(m0, .inr (20, [.int 0, .int 0, .ref m1, .ref m2, .ref m3, .int 0, .ref m4, .ref m5, .ref m6, .int 0, .ref m7, .ref m8, .ref m9, .int 0, .ref m10, .int 0, .ref m11, .ref m12, .ref m13, .int 0, .ref m14, .int 0, .int 0, .int 0, .ref m15, .ref m16])), (m1, .inl (ty 0, 6, .inl (fun _ => 0)))] H := hP
    have hD : va_D A [(m0, .inr (20, [.int 0, .int 0, .ref m1, .ref m2, .ref m3, .int 0, .ref m4, .ref m5, .ref m6, .int 0, .ref m7, .ref m8, .ref m9, .int 0, .ref m10, .int 0, .ref m11, .ref m12, .ref m13, .int 0, .ref m14, .int 0, .int 0, .int 0, .ref m15, .ref m16])), (m1, .inl (ty 0, 6, .inl (fun _ => 0)))] := hD
    refine W.widen (k := 0) (n := 0) (Nat.le_of_ble_eq_true rfl) (Nat.le_of_ble_eq_true rfl) ?_
    refine lv_if_ne (tgt := 19) hx hb dX16_addPredicate_12 (by decide) (fun c0 => absurd (by decide) c0) (fun _ => ?_)
    refine lv_iconst (v := 1) hx hb dX16_addPredicate_15 (by decide) ?_
    refine lv_goto (tgt := 20) hx hb dX16_addPredicate_16 (by decide) ?_
    refine lv_iconst (v := 1) hx hb dX16_addPredicate_20 (by decide) ?_
    refine wq_i (wc := [(m0, .inr (20, [.int 0, .int 0, .ref m1, .ref m2, .ref m3, .int 0, .ref m4, .ref m5, .ref m6, .int 0, .ref m7, .ref m8, .ref m9, .int 0, .ref m10, .int 0, .ref m11, .ref m12, .ref m13, .int 0, .ref m14, .int 0, .int 0, .int 0, .ref m15, .ref m16]))]) (wr := [(m1, .inl (ty 0, 6, .inl (fun _ => 0)))]) (va_runV (As := [.int 1, .int 1]) (rest := []) ⟨hx, hb, hml, hown, hts⟩ (k_X16_fails_1_1 l D ty td mi H.size m0 m1 m2 m3 m4 m5 m6 m7 m8 m9 m10 m11 m12 m13 m14 m15 m16 0) (cwV 2 hts gv_k_X16_addPredicate_1 rfl rfl rfl (by decide +kernel) ⟨(Nat.le_of_ble_eq_true rfl), (Nat.le_of_ble_eq_true rfl)⟩) (wq_preV hP hD hK hE hS hA [0] rfl (by decide) 0 20 rfl rfl) rfl rfl hl.1 rfl (lv_room (Nat.le_of_ble_eq_true rfl)) dX16_addPredicate_21 ⟨(Nat.le_of_ble_eq_true rfl), (Nat.le_of_ble_eq_true rfl)⟩) hS hA hP hD [0] [1] rfl rfl (by decide) (by decide) (fun r u H locs hw hP hD hS => ?_)
    obtain ⟨rfl, rfl⟩ := hw
    have hP : va_P D vwCl [(m1, .inl (ty 0, 6, .inl (fun _ => 0))), (m0, .inr (20, [.int 1, .int 0, .ref m1, .ref m2, .ref m3, .int 0, .ref m4, .ref m5, .ref m6, .int 0, .ref m7, .ref m8, .ref m9, .int 0, .ref m10, .int 0, .ref m11, .ref m12, .ref m13, .int 0, .ref m14, .int 0, .int 0, .int 0, .ref m15, .ref m16]))] H := hP
    have hD : va_D A [(m1, .inl (ty 0, 6, .inl (fun _ => 0))), (m0, .inr (20, [.int 1, .int 0, .ref m1, .ref m2, .ref m3, .int 0, .ref m4, .ref m5, .ref m6, .int 0, .ref m7, .ref m8, .ref m9, .int 0, .ref m10, .int 0, .ref m11, .ref m12, .ref m13, .int 0, .ref m14, .int 0, .int 0, .int 0, .ref m15, .ref m16]))] := hD
    refine W.widen (k := 0) (n := 0) (Nat.le_of_ble_eq_true rfl) (Nat.le_of_ble_eq_true rfl) ?_
    refine lv_if_ne (tgt := 49) hx hb dX16_addPredicate_24 (by decide) (fun _ => ?_) (fun c0 => absurd c0 (by decide))
    refine lv_iconst (v := 0) hx hb dX16_addPredicate_49 (by decide) ?_
    have hP9 := hP.sub (ws' := [(m0, .inr (20, [.int 1, .int 0, .ref m1, .ref m2, .ref m3, .int 0, .ref m4, .ref m5, .ref m6, .int 0, .ref m7, .ref m8, .ref m9, .int 0, .ref m10, .int 0, .ref m11, .ref m12, .ref m13, .int 0, .ref m14, .int 0, .int 0, .int 0, .ref m15, .ref m16]))]) [1] rfl
    have hD9 := hD.sub (ws' := [(m0, .inr (20, [.int 1, .int 0, .ref m1, .ref m2, .ref m3, .int 0, .ref m4, .ref m5, .ref m6, .int 0, .ref m7, .ref m8, .ref m9, .int 0, .ref m10, .int 0, .ref m11, .ref m12, .ref m13, .int 0, .ref m14, .int 0, .int 0, .int 0, .ref m15, .ref m16]))]) [1] (by decide) rfl
    refine W.widen (k := 0) (n := 0) (Nat.le_of_ble_eq_true rfl) (Nat.le_of_ble_eq_true rfl) ?_
    exact W.iret (v := 0) hx hb hr (fun t ht hW => ⟨⟨0, [(m0, .inr (20, [.int 1, .int 0, .ref m1, .ref m2, .ref m3, .int 0, .ref m4, .ref m5, .ref m6, .int 0, .ref m7, .ref m8, .ref m9, .int 0, .ref m10, .int 0, .ref m11, .ref m12, .ref m13, .int 0, .ref m14, .int 0, .int 0, .int 0, .ref m15, .ref m16]))], rfl, (Or.inl ⟨rfl, c_1, rfl⟩), wq_B.of ht hP9 hD9⟩, hS.F ht⟩) hS.2.2 dX16_addPredicate_50
  · have hP : va_P D vwCl [(m0, .inr (20, [.int 0, .int 0, .ref m1, .ref m2, .ref m3, .int 0, .ref m4, .ref m5, .ref m6, .int 0, .ref m7, .ref m8, .ref m9, .int 0, .ref m10, .int 0, .ref m11, .ref m12, .ref m13, .int 0, .ref m14, .int 0, .int 0, .int 0, .ref m15, .ref m16])), (m1, .inl (ty 0, 6, .inl (fun _ => 0)))] H := hP
    have hD : va_D A [(m0, .inr (20, [.int 0, .int 0, .ref m1, .ref m2, .ref m3, .int 0, .ref m4, .ref m5, .ref m6, .int 0, .ref m7, .ref m8, .ref m9, .int 0, .ref m10, .int 0, .ref m11, .ref m12, .ref m13, .int 0, .ref m14, .int 0, .int 0, .int 0, .ref m15, .ref m16])), (m1, .inl (ty 0, 6, .inl (fun _ => 0)))] := hD
    refine W.widen (k := 0) (n := 0) (Nat.le_of_ble_eq_true rfl) (Nat.le_of_ble_eq_true rfl) ?_
    refine lv_if_ne (tgt := 19) hx hb dX16_addPredicate_12 (by decide) (fun c0 => absurd (by decide) c0) (fun _ => ?_)
    refine lv_iconst (v := 1) hx hb dX16_addPredicate_15 (by decide) ?_
    refine lv_goto (tgt := 20) hx hb dX16_addPredicate_16 (by decide) ?_
    refine lv_iconst (v := 1) hx hb dX16_addPredicate_20 (by decide) ?_
    refine wq_i (wc := [(m0, .inr (20, [.int 0, .int 0, .ref m1, .ref m2, .ref m3, .int 0, .ref m4, .ref m5, .ref m6, .int 0, .ref m7, .ref m8, .ref m9, .int 0, .ref m10, .int 0, .ref m11, .ref m12, .ref m13, .int 0, .ref m14, .int 0, .int 0, .int 0, .ref m15, .ref m16]))]) (wr := [(m1, .inl (ty 0, 6, .inl (fun _ => 0)))]) (va_runV (As := [.int 1, .int 1]) (rest := []) ⟨hx, hb, hml, hown, hts⟩ (k_X16_fails_1_1 l D ty td mi H.size m0 m1 m2 m3 m4 m5 m6 m7 m8 m9 m10 m11 m12 m13 m14 m15 m16 0) (cwV 2 hts gv_k_X16_addPredicate_2 rfl rfl rfl (by decide +kernel) ⟨(Nat.le_of_ble_eq_true rfl), (Nat.le_of_ble_eq_true rfl)⟩) (wq_preV hP hD hK hE hS hA [0] rfl (by decide) 0 20 rfl rfl) rfl rfl hl.1 rfl (lv_room (Nat.le_of_ble_eq_true rfl)) dX16_addPredicate_21 ⟨(Nat.le_of_ble_eq_true rfl), (Nat.le_of_ble_eq_true rfl)⟩) hS hA hP hD [0] [1] rfl rfl (by decide) (by decide) (fun r u H locs hw hP hD hS => ?_)
    obtain ⟨rfl, rfl⟩ := hw
    have hP : va_P D vwCl [(m1, .inl (ty 0, 6, .inl (fun _ => 0))), (m0, .inr (20, [.int 1, .int 0, .ref m1, .ref m2, .ref m3, .int 0, .ref m4, .ref m5, .ref m6, .int 0, .ref m7, .ref m8, .ref m9, .int 0, .ref m10, .int 0, .ref m11, .ref m12, .ref m13, .int 0, .ref m14, .int 0, .int 0, .int 0, .ref m15, .ref m16]))] H := hP
    have hD : va_D A [(m1, .inl (ty 0, 6, .inl (fun _ => 0))), (m0, .inr (20, [.int 1, .int 0, .ref m1, .ref m2, .ref m3, .int 0, .ref m4, .ref m5, .ref m6, .int 0, .ref m7, .ref m8, .ref m9, .int 0, .ref m10, .int 0, .ref m11, .ref m12, .ref m13, .int 0, .ref m14, .int 0, .int 0, .int 0, .ref m15, .ref m16]))] := hD
    refine W.widen (k := 0) (n := 0) (Nat.le_of_ble_eq_true rfl) (Nat.le_of_ble_eq_true rfl) ?_
    refine lv_if_ne (tgt := 49) hx hb dX16_addPredicate_24 (by decide) (fun _ => ?_) (fun c0 => absurd c0 (by decide))
    refine lv_iconst (v := 0) hx hb dX16_addPredicate_49 (by decide) ?_
    have hP9 := hP.sub (ws' := [(m0, .inr (20, [.int 1, .int 0, .ref m1, .ref m2, .ref m3, .int 0, .ref m4, .ref m5, .ref m6, .int 0, .ref m7, .ref m8, .ref m9, .int 0, .ref m10, .int 0, .ref m11, .ref m12, .ref m13, .int 0, .ref m14, .int 0, .int 0, .int 0, .ref m15, .ref m16]))]) [1] rfl
    have hD9 := hD.sub (ws' := [(m0, .inr (20, [.int 1, .int 0, .ref m1, .ref m2, .ref m3, .int 0, .ref m4, .ref m5, .ref m6, .int 0, .ref m7, .ref m8, .ref m9, .int 0, .ref m10, .int 0, .ref m11, .ref m12, .ref m13, .int 0, .ref m14, .int 0, .int 0, .int 0, .ref m15, .ref m16]))]) [1] (by decide) rfl
    refine W.widen (k := 0) (n := 0) (Nat.le_of_ble_eq_true rfl) (Nat.le_of_ble_eq_true rfl) ?_
    exact W.iret (v := 0) hx hb hr (fun t ht hW => ⟨⟨0, [(m0, .inr (20, [.int 1, .int 0, .ref m1, .ref m2, .ref m3, .int 0, .ref m4, .ref m5, .ref m6, .int 0, .ref m7, .ref m8, .ref m9, .int 0, .ref m10, .int 0, .ref m11, .ref m12, .ref m13, .int 0, .ref m14, .int 0, .int 0, .int 0, .ref m15, .ref m16]))], rfl, (Or.inr (Or.inl ⟨rfl, c_2, c_3, rfl⟩)), wq_B.of ht hP9 hD9⟩, hS.F ht⟩) hS.2.2 dX16_addPredicate_50
  · have hP : va_P D vwCl [(m0, .inr (20, [.int 0, .int 0, .ref m1, .ref m2, .ref m3, .int 0, .ref m4, .ref m5, .ref m6, .int 0, .ref m7, .ref m8, .ref m9, .int 0, .ref m10, .int 0, .ref m11, .ref m12, .ref m13, .int 0, .ref m14, .int 0, .int 0, .int 0, .ref m15, .ref m16])), (m1, .inl (ty 0, 6, .inl (fun _ => 0)))] H := hP
    have hD : va_D A [(m0, .inr (20, [.int 0, .int 0, .ref m1, .ref m2, .ref m3, .int 0, .ref m4, .ref m5, .ref m6, .int 0, .ref m7, .ref m8, .ref m9, .int 0, .ref m10, .int 0, .ref m11, .ref m12, .ref m13, .int 0, .ref m14, .int 0, .int 0, .int 0, .ref m15, .ref m16])), (m1, .inl (ty 0, 6, .inl (fun _ => 0)))] := hD
    refine W.widen (k := 0) (n := 0) (Nat.le_of_ble_eq_true rfl) (Nat.le_of_ble_eq_true rfl) ?_
    refine lv_if_ne (tgt := 19) hx hb dX16_addPredicate_12 (by decide) (fun _ => ?_) (fun c0 => absurd c0 (by decide))
    refine lv_iconst (v := 0) hx hb dX16_addPredicate_19 (by decide) ?_
    refine lv_iconst (v := 1) hx hb dX16_addPredicate_20 (by decide) ?_
    refine wq_i (wc := [(m0, .inr (20, [.int 0, .int 0, .ref m1, .ref m2, .ref m3, .int 0, .ref m4, .ref m5, .ref m6, .int 0, .ref m7, .ref m8, .ref m9, .int 0, .ref m10, .int 0, .ref m11, .ref m12, .ref m13, .int 0, .ref m14, .int 0, .int 0, .int 0, .ref m15, .ref m16]))]) (wr := [(m1, .inl (ty 0, 6, .inl (fun _ => 0)))]) (va_runV (As := [.int 0, .int 1]) (rest := []) ⟨hx, hb, hml, hown, hts⟩ (k_X16_fails_0_1 l D ty td mi H.size m0 m1 m2 m3 m4 m5 m6 m7 m8 m9 m10 m11 m12 m13 m14 m15 m16 0) (cwV 2 hts gv_k_X16_addPredicate_3 rfl rfl rfl (by decide +kernel) ⟨(Nat.le_of_ble_eq_true rfl), (Nat.le_of_ble_eq_true rfl)⟩) (wq_preV hP hD hK hE hS hA [0] rfl (by decide) 0 20 rfl rfl) rfl rfl hl.1 rfl (lv_room (Nat.le_of_ble_eq_true rfl)) dX16_addPredicate_21 ⟨(Nat.le_of_ble_eq_true rfl), (Nat.le_of_ble_eq_true rfl)⟩) hS hA hP hD [0] [1] rfl rfl (by decide) (by decide) (fun r u H locs hw hP hD hS => ?_)
    obtain ⟨rfl, rfl⟩ := hw
    have hP : va_P D vwCl [(m1, .inl (ty 0, 6, .inl (fun _ => 0))), (m0, .inr (20, [.int 0, .int 0, .ref m1, .ref m2, .ref m3, .int 0, .ref m4, .ref m5, .ref m6, .int 0, .ref m7, .ref m8, .ref m9, .int 0, .ref m10, .int 0, .ref m11, .ref m12, .ref m13, .int 0, .ref m14, .int 0, .int 0, .int 0, .ref m15, .ref m16]))] H := hP
    have hD : va_D A [(m1, .inl (ty 0, 6, .inl (fun _ => 0))), (m0, .inr (20, [.int 0, .int 0, .ref m1, .ref m2, .ref m3, .int 0, .ref m4, .ref m5, .ref m6, .int 0, .ref m7, .ref m8, .ref m9, .int 0, .ref m10, .int 0, .ref m11, .ref m12, .ref m13, .int 0, .ref m14, .int 0, .int 0, .int 0, .ref m15, .ref m16]))] := hD
    refine W.widen (k := 0) (n := 0) (Nat.le_of_ble_eq_true rfl) (Nat.le_of_ble_eq_true rfl) ?_
    refine lv_if_ne (tgt := 49) hx hb dX16_addPredicate_24 (by decide) (fun c0 => absurd (by decide) c0) (fun _ => ?_)
    refine lv_aload_n hx hb dX16_addPredicate_27 rfl (lv_at hl 0 rfl) ?_
    refine lv_aload_n hx hb dX16_addPredicate_28 rfl (lv_at hl 0 rfl) ?_
    refine va_get (D := D) (ci := 20) (v := .int 0) (C := RX16) (T := TX16) (N := 26) hx hb hts iv_k_X16_addPredicate_X16 hown hK hP 1 rfl rfl 1 (by decide) (hts (.fieldLink RX16 69 "AnswerFoldModel" "predicates" "I") (by decide +kernel)) (fun _ h9 => h9) rfl dX16_addPredicate_29 ?_
    refine lv_bipush (v := 6) hx hb dX16_addPredicate_32 (by decide) ?_
    refine lv_icmp_ne (tgt := 41) hx hb dX16_addPredicate_34 (by decide) (fun _ => ?_) (fun c0 => absurd c0 (by decide))
    refine lv_iconst (v := 0) hx hb dX16_addPredicate_41 (by decide) ?_
    refine lv_iconst (v := 2) hx hb dX16_addPredicate_42 (by decide) ?_
    refine wq_i (wc := [(m0, .inr (20, [.int 0, .int 0, .ref m1, .ref m2, .ref m3, .int 0, .ref m4, .ref m5, .ref m6, .int 0, .ref m7, .ref m8, .ref m9, .int 0, .ref m10, .int 0, .ref m11, .ref m12, .ref m13, .int 0, .ref m14, .int 0, .int 0, .int 0, .ref m15, .ref m16]))]) (wr := [(m1, .inl (ty 0, 6, .inl (fun _ => 0)))]) (va_runV (As := [.int 0, .int 2]) (rest := []) ⟨hx, hb, hml, hown, hts⟩ (k_X16_fails_0_2 l D ty td mi H.size m0 m1 m2 m3 m4 m5 m6 m7 m8 m9 m10 m11 m12 m13 m14 m15 m16 0) (cwV 2 hts gv_k_X16_addPredicate_4 rfl rfl rfl (by decide +kernel) ⟨(Nat.le_of_ble_eq_true rfl), (Nat.le_of_ble_eq_true rfl)⟩) (wq_preV hP hD hK hE hS hA [1] rfl (by decide) 1 20 rfl rfl) rfl rfl hl.1 rfl (lv_room (Nat.le_of_ble_eq_true rfl)) dX16_addPredicate_43 ⟨(Nat.le_of_ble_eq_true rfl), (Nat.le_of_ble_eq_true rfl)⟩) hS hA hP hD [1] [0] rfl rfl (by decide) (by decide) (fun r u H locs hw hP hD hS => ?_)
    obtain ⟨rfl, rfl⟩ := hw
    have hP : va_P D vwCl [(m1, .inl (ty 0, 6, .inl (fun _ => 0))), (m0, .inr (20, [.int 0, .int 0, .ref m1, .ref m2, .ref m3, .int 0, .ref m4, .ref m5, .ref m6, .int 0, .ref m7, .ref m8, .ref m9, .int 0, .ref m10, .int 0, .ref m11, .ref m12, .ref m13, .int 0, .ref m14, .int 0, .int 0, .int 0, .ref m15, .ref m16]))] H := hP
    have hD : va_D A [(m1, .inl (ty 0, 6, .inl (fun _ => 0))), (m0, .inr (20, [.int 0, .int 0, .ref m1, .ref m2, .ref m3, .int 0, .ref m4, .ref m5, .ref m6, .int 0, .ref m7, .ref m8, .ref m9, .int 0, .ref m10, .int 0, .ref m11, .ref m12, .ref m13, .int 0, .ref m14, .int 0, .int 0, .int 0, .ref m15, .ref m16]))] := hD
    refine W.widen (k := 0) (n := 0) (Nat.le_of_ble_eq_true rfl) (Nat.le_of_ble_eq_true rfl) ?_
    refine lv_if_eq (tgt := 51) hx hb dX16_addPredicate_46 (by decide) (fun _ => ?_) (fun c0 => absurd (by decide) c0)
    refine lv_aload_n hx hb dX16_addPredicate_51 rfl (lv_at hl 0 rfl) ?_
    refine va_get (D := D) (ci := 20) (v := .ref m1) (C := RX16) (T := TX16) (N := 26) hx hb hts iv_k_X16_addPredicate_X16 hown hK hP 1 rfl rfl 2 (by decide) (hts (.fieldLink RX16 7 "AnswerFoldModel" "places" "[I") (by decide +kernel)) (fun _ h9 => h9) rfl dX16_addPredicate_52 ?_
    refine lv_aload_n hx hb dX16_addPredicate_55 rfl (lv_at hl 0 rfl) ?_
    refine va_get (D := D) (ci := 20) (v := .int 0) (C := RX16) (T := TX16) (N := 26) hx hb hts iv_k_X16_addPredicate_X16 hown hK hP 1 rfl rfl 1 (by decide) (hts (.fieldLink RX16 69 "AnswerFoldModel" "predicates" "I") (by decide +kernel)) (fun _ h9 => h9) rfl dX16_addPredicate_56 ?_
    refine lv_iload_n hx hb dX16_addPredicate_59 rfl (lv_at hl 1 rfl) ?_
    refine va_iast (D := D) hx hb hK hP hD hS 0 0 rfl rfl (vp_in_iff.mpr (by decide)) dX16_addPredicate_60 (fun H locs hP hD hS => ?_)
    have hP : va_P D vwCl [(m1, .inl (ty 0, 6, .inl (upd (fun _ => 0) (0 : Int32).toNatClampNeg k1))), (m0, .inr (20, [.int 0, .int 0, .ref m1, .ref m2, .ref m3, .int 0, .ref m4, .ref m5, .ref m6, .int 0, .ref m7, .ref m8, .ref m9, .int 0, .ref m10, .int 0, .ref m11, .ref m12, .ref m13, .int 0, .ref m14, .int 0, .int 0, .int 0, .ref m15, .ref m16]))] H := hP
    have hD : va_D A [(m1, .inl (ty 0, 6, .inl (upd (fun _ => 0) (0 : Int32).toNatClampNeg k1))), (m0, .inr (20, [.int 0, .int 0, .ref m1, .ref m2, .ref m3, .int 0, .ref m4, .ref m5, .ref m6, .int 0, .ref m7, .ref m8, .ref m9, .int 0, .ref m10, .int 0, .ref m11, .ref m12, .ref m13, .int 0, .ref m14, .int 0, .int 0, .int 0, .ref m15, .ref m16]))] := hD
    refine lv_aload_n hx hb dX16_addPredicate_61 rfl (lv_at hl 0 rfl) ?_
    refine lv_dup hx hb dX16_addPredicate_62 rfl ?_
    refine va_get (D := D) (ci := 20) (v := .int 0) (C := RX16) (T := TX16) (N := 26) hx hb hts iv_k_X16_addPredicate_X16 hown hK hP 1 rfl rfl 1 (by decide) (hts (.fieldLink RX16 69 "AnswerFoldModel" "predicates" "I") (by decide +kernel)) (fun _ h9 => h9) rfl dX16_addPredicate_63 ?_
    refine lv_iconst (v := 1) hx hb dX16_addPredicate_66 (by decide) ?_
    refine lv_iadd hx hb dX16_addPredicate_67 ?_
    refine lv_topi (nm_r (e' := 1) (by decide) ?_)
    refine va_put (D := D) (ci := 20) (v := .int 1) (ty := tyX16 1) (C := RX16) (T := TX16) (N := 26) hx hb hts iv_k_X16_addPredicate_X16 tyX16 tyX16_ok nmX16 hown hK hP hD hS 1 rfl rfl 1 (by decide) (hts (.fieldLink RX16 69 "AnswerFoldModel" "predicates" "I") (by decide +kernel)) (fun _ h9 => h9) rfl (by decide +kernel) rfl rfl (Nat.le_of_ble_eq_true rfl) dX16_addPredicate_68 (fun H locs hP hD hS => ?_)
    have hP : va_P D vwCl [(m1, .inl (ty 0, 6, .inl (upd (fun _ => 0) (0 : Int32).toNatClampNeg k1))), (m0, .inr (20, [.int 0, .int 1, .ref m1, .ref m2, .ref m3, .int 0, .ref m4, .ref m5, .ref m6, .int 0, .ref m7, .ref m8, .ref m9, .int 0, .ref m10, .int 0, .ref m11, .ref m12, .ref m13, .int 0, .ref m14, .int 0, .int 0, .int 0, .ref m15, .ref m16]))] H := hP
    have hD : va_D A [(m1, .inl (ty 0, 6, .inl (upd (fun _ => 0) (0 : Int32).toNatClampNeg k1))), (m0, .inr (20, [.int 0, .int 1, .ref m1, .ref m2, .ref m3, .int 0, .ref m4, .ref m5, .ref m6, .int 0, .ref m7, .ref m8, .ref m9, .int 0, .ref m10, .int 0, .ref m11, .ref m12, .ref m13, .int 0, .ref m14, .int 0, .int 0, .int 0, .ref m15, .ref m16]))] := hD
    refine lv_aload_n hx hb dX16_addPredicate_71 rfl (lv_at hl 0 rfl) ?_
    refine wq_v (wc := [(m0, .inr (20, [.int 0, .int 1, .ref m1, .ref m2, .ref m3, .int 0, .ref m4, .ref m5, .ref m6, .int 0, .ref m7, .ref m8, .ref m9, .int 0, .ref m10, .int 0, .ref m11, .ref m12, .ref m13, .int 0, .ref m14, .int 0, .int 0, .int 0, .ref m15, .ref m16]))]) (wr := [(m1, .inl (ty 0, 6, .inl (upd (fun _ => 0) (0 : Int32).toNatClampNeg k1)))]) (va_runV (As := []) (rest := []) ⟨hx, hb, hml, hown, hts⟩ (k_X16_change l D ty td mi H.size m0 m1 m2 m3 m4 m5 m6 m7 m8 m9 m10 m11 m12 m13 m14 m15 m16 1 0) (cwV 0 hts gv_k_X16_addPredicate_5 rfl rfl rfl (by decide +kernel) ⟨(Nat.le_of_ble_eq_true rfl), (Nat.le_of_ble_eq_true rfl)⟩) (wq_preV hP hD hK hE hS hA [1] rfl (by decide) 1 20 rfl rfl) rfl rfl hl.1 rfl (lv_room (Nat.le_of_ble_eq_true rfl)) dX16_addPredicate_72 ⟨(Nat.le_of_ble_eq_true rfl), (Nat.le_of_ble_eq_true rfl)⟩) hS hA hP hD [1] [0] rfl rfl (by decide) (by decide) (fun u H locs hw hP hD hS => ?_)
    obtain rfl := hw
    have hP : va_P D vwCl [(m1, .inl (ty 0, 6, .inl (upd (fun _ => 0) (0 : Int32).toNatClampNeg k1))), (m0, .inr (20, [.int 0, .int 1, .ref m1, .ref m2, .ref m3, .int 0, .ref m4, .ref m5, .ref m6, .int 0, .ref m7, .ref m8, .ref m9, .int 0, .ref m10, .int 0, .ref m11, .ref m12, .ref m13, .int 0, .ref m14, .int 0, .int 0, .int 0, .ref m15, .ref m16]))] H := hP
    have hD : va_D A [(m1, .inl (ty 0, 6, .inl (upd (fun _ => 0) (0 : Int32).toNatClampNeg k1))), (m0, .inr (20, [.int 0, .int 1, .ref m1, .ref m2, .ref m3, .int 0, .ref m4, .ref m5, .ref m6, .int 0, .ref m7, .ref m8, .ref m9, .int 0, .ref m10, .int 0, .ref m11, .ref m12, .ref m13, .int 0, .ref m14, .int 0, .int 0, .int 0, .ref m15, .ref m16]))] := hD
    refine W.widen (k := 0) (n := 0) (Nat.le_of_ble_eq_true rfl) (Nat.le_of_ble_eq_true rfl) ?_
    refine lv_aload_n hx hb dX16_addPredicate_75 rfl (lv_at hl 0 rfl) ?_
    refine va_get (D := D) (ci := 20) (v := .int 1) (C := RX16) (T := TX16) (N := 26) hx hb hts iv_k_X16_addPredicate_X16 hown hK hP 1 rfl rfl 1 (by decide) (hts (.fieldLink RX16 69 "AnswerFoldModel" "predicates" "I") (by decide +kernel)) (fun _ h9 => h9) rfl dX16_addPredicate_76 ?_
    refine lv_iconst (v := 1) hx hb dX16_addPredicate_79 (by decide) ?_
    refine lv_isub hx hb dX16_addPredicate_80 ?_
    refine lv_topi (nm_r (e' := 0) (by decide) ?_)
    have hP9 := hP.sub (ws' := [(m0, .inr (20, [.int 0, .int 1, .ref m1, .ref m2, .ref m3, .int 0, .ref m4, .ref m5, .ref m6, .int 0, .ref m7, .ref m8, .ref m9, .int 0, .ref m10, .int 0, .ref m11, .ref m12, .ref m13, .int 0, .ref m14, .int 0, .int 0, .int 0, .ref m15, .ref m16]))]) [1] rfl
    have hD9 := hD.sub (ws' := [(m0, .inr (20, [.int 0, .int 1, .ref m1, .ref m2, .ref m3, .int 0, .ref m4, .ref m5, .ref m6, .int 0, .ref m7, .ref m8, .ref m9, .int 0, .ref m10, .int 0, .ref m11, .ref m12, .ref m13, .int 0, .ref m14, .int 0, .int 0, .int 0, .ref m15, .ref m16]))]) [1] (by decide) rfl
    refine W.widen (k := 0) (n := 0) (Nat.le_of_ble_eq_true rfl) (Nat.le_of_ble_eq_true rfl) ?_
    exact W.iret (v := 0) hx hb hr (fun t ht hW => ⟨⟨0, [(m0, .inr (20, [.int 0, .int 1, .ref m1, .ref m2, .ref m3, .int 0, .ref m4, .ref m5, .ref m6, .int 0, .ref m7, .ref m8, .ref m9, .int 0, .ref m10, .int 0, .ref m11, .ref m12, .ref m13, .int 0, .ref m14, .int 0, .int 0, .int 0, .ref m15, .ref m16]))], rfl, (Or.inr (Or.inr ⟨rfl, c_4, c_5, rfl⟩)), wq_B.of ht hP9 hD9⟩, hS.F ht⟩) hS.2.2 dX16_addPredicate_81
def vs_k_X16_addHead : List Cond := .code yX16_addHead cX16_addHead 5 (some .int) :: ([.fieldLink RX16 65 "AnswerFoldModel" "thrown" "I", .methodLink RX16 128 yX16_noRule, .instanceMethod yX16_noRule, .selects RX16 yX16_noRule yX16_noRule, .initialized RX16, .methodLink RX16 87 yX16_fails, .instanceMethod yX16_fails, .selects RX16 yX16_fails yX16_fails] ++ (u_ws RX16 TX16 26 ++ (vs_k_X16_noRule ++ (vs_k_X16_fails_1_1))))
theorem iv_k_X16_addHead_X16 : ∀ w ∈ u_ws RX16 TX16 26, w ∈ vs_k_X16_addHead := (fun _ h => List.mem_cons_of_mem _ (List.mem_append_right _ (List.mem_append_left _ h)))
set_option maxRecDepth 20000 in
theorem gv_k_X16_addHead_0 : GoodIn vs_k_X16_addHead (wsV RX16 128 RX16 yX16_noRule vs_k_X16_noRule) := goodIn_app (goodIn_sub (by decide +kernel) (by decide +kernel)) (goodIn_sub (fun _ h => List.mem_cons_of_mem _ (List.mem_append_right _ (List.mem_append_right _ (List.mem_append_left _ h)))) (by decide +kernel))
set_option maxRecDepth 20000 in
theorem gv_k_X16_addHead_1 : GoodIn vs_k_X16_addHead (wsV RX16 87 RX16 yX16_fails vs_k_X16_fails_1_1) := goodIn_app (goodIn_sub (by decide +kernel) (by decide +kernel)) (goodIn_sub (fun _ h => List.mem_cons_of_mem _ (List.mem_append_right _ (List.mem_append_right _ (List.mem_append_right _ (h))))) (by decide +kernel))
set_option maxHeartbeats 4000000 in
set_option maxRecDepth 100000 in
theorem k_X16_addHead (l : Launch) (D : va_G) (ty : Nat → ClassId) (td mi sz : Nat) (m0 : Nat) (m1 : Nat) (m2 : Nat) (m3 : Nat) (m4 : Nat) (m5 : Nat) (m6 : Nat) (m7 : Nat) (m8 : Nat) (m9 : Nat) (m10 : Nat) (m11 : Nat) (m12 : Nat) (m13 : Nat) (m14 : Nat) (m15 : Nat) (m16 : Nat) (k1 : Int32) (k2 : Int32) (k3 : Int32) (k4 : Int32) : Met l yX16_addHead vs_k_X16_addHead { frames := 2, cells := 0, slots := 0, locals := 43 } (va_Pc [.ref m0, .int k1, .int k2, .int k3, .int k4] (wq_P D ty td mi [(m0, .inr (20, [.int 0, .int 0, .ref m1, .ref m2, .ref m3, .int 0, .ref m4, .ref m5, .ref m6, .int 0, .ref m7, .ref m8, .ref m9, .int 0, .ref m10, .int 0, .ref m11, .ref m12, .ref m13, .int 0, .ref m14, .int 0, .int 0, .int 0, .ref m15, .ref m16])), (m2, .inr (4, [.int 0, .ref td, .int 0]))] sz)) (va_Qi (fun (r : Int32) (u : va_W) => (r = 0 ∧ (u = [(m0, .inr (20, [.int 1, .int 0, .ref m1, .ref m2, .ref m3, .int 0, .ref m4, .ref m5, .ref m6, .int 0, .ref m7, .ref m8, .ref m9, .int 0, .ref m10, .int 0, .ref m11, .ref m12, .ref m13, .int 0, .ref m14, .int 0, .int 0, .int 0, .ref m15, .ref m16]))]))) (wq_B D (va_A [(m0, .inr (20, [.int 0, .int 0, .ref m1, .ref m2, .ref m3, .int 0, .ref m4, .ref m5, .ref m6, .int 0, .ref m7, .ref m8, .ref m9, .int 0, .ref m10, .int 0, .ref m11, .ref m12, .ref m13, .int 0, .ref m14, .int 0, .int 0, .int 0, .ref m15, .ref m16])), (m2, .inr (4, [.int 0, .ref td, .int 0]))] sz)) (va_A [(m0, .inr (20, [.int 0, .int 0, .ref m1, .ref m2, .ref m3, .int 0, .ref m4, .ref m5, .ref m6, .int 0, .ref m7, .ref m8, .ref m9, .int 0, .ref m10, .int 0, .ref m11, .ref m12, .ref m13, .int 0, .ref m14, .int 0, .int 0, .int 0, .ref m15, .ref m16])), (m2, .inr (4, [.int 0, .ref td, .int 0]))] sz)) 0 0 (va_A [(m0, .inr (20, [.int 0, .int 0, .ref m1, .ref m2, .ref m3, .int 0, .ref m4, .ref m5, .ref m6, .int 0, .ref m7, .ref m8, .ref m9, .int 0, .ref m10, .int 0, .ref m11, .ref m12, .ref m13, .int 0, .ref m14, .int 0, .int 0, .int 0, .ref m15, .ref m16])), (m2, .inr (4, [.int 0, .ref td, .int 0]))] sz) := by
  refine Met.ofW (cc := cX16_addHead) (maxL := 5) (ret := (some .int)) (by decide) rfl ?_
  intro p e s m args below meth c s₁ B hml hv
  obtain ⟨rfl, hsz, hP, hK, hD0, hE⟩ := hv
  have hx := B.exec
  have hb := B.bytes
  have hr := B.returns
  have hts := atoms_spec (ws := vs_k_X16_addHead) B.pre
  have hown : s.vm.findClass RX16 = some m.cls := findClass_of_methodNamed B.named
  have hlocks := B.notSynchronized
  subst hsz
  have hD := hD0.self (sz := s.heap.size)
  generalize hAe : va_A [(m0, .inr (20, [.int 0, .int 0, .ref m1, .ref m2, .ref m3, .int 0, .ref m4, .ref m5, .ref m6, .int 0, .ref m7, .ref m8, .ref m9, .int 0, .ref m10, .int 0, .ref m11, .ref m12, .ref m13, .int 0, .ref m14, .int 0, .int 0, .int 0, .ref m15, .ref m16])), (m2, .inr (4, [.int 0, .ref td, .int 0]))] s.heap.size = A at hD hE ⊢
  have hA : ∀ q : Nat, s.heap.size ≤ q → A q := fun q h => by rw [← hAe]; exact Or.inr h
  have hS : va_S A s.heap s.heap [] := va_S.rf
  have hP : va_P D vwCl [(m0, .inr (20, [.int 0, .int 0, .ref m1, .ref m2, .ref m3, .int 0, .ref m4, .ref m5, .ref m6, .int 0, .ref m7, .ref m8, .ref m9, .int 0, .ref m10, .int 0, .ref m11, .ref m12, .ref m13, .int 0, .ref m14, .int 0, .int 0, .int 0, .ref m15, .ref m16])), (m2, .inr (4, [.int 0, .ref td, .int 0]))] s.heap := hP
  have hl := lv_entry ([.ref m0, .int k1, .int k2, .int k3, .int k4]) (n := 5) (Nat.le_of_ble_eq_true rfl)
  rw [lg_entry_eq]
  generalize (lg_sl ([.ref m0, .int k1, .int k2, .int k3, .int k4]) ++ List.replicate (5 - (lg_sl ([.ref m0, .int k1, .int k2, .int k3, .int k4])).length) Slot.unset).toArray = ls at hl ⊢
  have hl : lv_has ls 5 [(0, .ref m0), (1, .int k1), (2, .int k2), (3, .int k3), (4, .int k4)] := hl
  refine lv_aload_n hx hb dX16_addHead_0 rfl (lv_at hl 0 rfl) ?_
  refine lv_iconst (v := 0) hx hb dX16_addHead_1 (by decide) ?_
  refine va_put (D := D) (ci := 20) (v := .int 0) (ty := tyX16 0) (C := RX16) (T := TX16) (N := 26) hx hb hts iv_k_X16_addHead_X16 tyX16 tyX16_ok nmX16 hown hK hP hD hS 0 rfl rfl 0 (by decide) (hts (.fieldLink RX16 65 "AnswerFoldModel" "thrown" "I") (by decide +kernel)) (fun _ h9 => h9) rfl (by decide +kernel) rfl rfl (Nat.le_of_ble_eq_true rfl) dX16_addHead_2 (fun H locs hP hD hS => ?_)
  have hP : va_P D vwCl [(m0, .inr (20, [.int 0, .int 0, .ref m1, .ref m2, .ref m3, .int 0, .ref m4, .ref m5, .ref m6, .int 0, .ref m7, .ref m8, .ref m9, .int 0, .ref m10, .int 0, .ref m11, .ref m12, .ref m13, .int 0, .ref m14, .int 0, .int 0, .int 0, .ref m15, .ref m16])), (m2, .inr (4, [.int 0, .ref td, .int 0]))] H := hP
  have hD : va_D A [(m0, .inr (20, [.int 0, .int 0, .ref m1, .ref m2, .ref m3, .int 0, .ref m4, .ref m5, .ref m6, .int 0, .ref m7, .ref m8, .ref m9, .int 0, .ref m10, .int 0, .ref m11, .ref m12, .ref m13, .int 0, .ref m14, .int 0, .int 0, .int 0, .ref m15, .ref m16])), (m2, .inr (4, [.int 0, .ref td, .int 0]))] := hD
  refine lv_aload_n hx hb dX16_addHead_5 rfl (lv_at hl 0 rfl) ?_
  refine lv_aload_n hx hb dX16_addHead_6 rfl (lv_at hl 0 rfl) ?_
  refine lv_iload_n hx hb dX16_addHead_7 rfl (lv_at hl 1 rfl) ?_
  refine wq_i (wc := [(m0, .inr (20, [.int 0, .int 0, .ref m1, .ref m2, .ref m3, .int 0, .ref m4, .ref m5, .ref m6, .int 0, .ref m7, .ref m8, .ref m9, .int 0, .ref m10, .int 0, .ref m11, .ref m12, .ref m13, .int 0, .ref m14, .int 0, .int 0, .int 0, .ref m15, .ref m16])), (m2, .inr (4, [.int 0, .ref td, .int 0]))]) (wr := []) (va_runV (As := [.int k1]) (rest := [.ref m0]) ⟨hx, hb, hml, hown, hts⟩ (k_X16_noRule l D ty td mi H.size m0 m1 m2 m3 m4 m5 m6 m7 m8 m9 m10 m11 m12 m13 m14 m15 m16 k1) (cwV 1 hts gv_k_X16_addHead_0 rfl rfl rfl (by decide +kernel) ⟨(Nat.le_of_ble_eq_true rfl), (Nat.le_of_ble_eq_true rfl)⟩) (wq_preV hP hD hK hE hS hA [0, 1] rfl (by decide) 0 20 rfl rfl) rfl rfl hl.1 rfl (lv_room (Nat.le_of_ble_eq_true rfl)) dX16_addHead_8 ⟨(Nat.le_of_ble_eq_true rfl), (Nat.le_of_ble_eq_true rfl)⟩) hS hA hP hD [0, 1] [] rfl rfl (by decide) (by decide) (fun r u H locs hw hP hD hS => ?_)
  obtain ⟨rfl, rfl⟩ := hw
  have hP : va_P D vwCl [(m0, .inr (20, [.int 0, .int 0, .ref m1, .ref m2, .ref m3, .int 0, .ref m4, .ref m5, .ref m6, .int 0, .ref m7, .ref m8, .ref m9, .int 0, .ref m10, .int 0, .ref m11, .ref m12, .ref m13, .int 0, .ref m14, .int 0, .int 0, .int 0, .ref m15, .ref m16])), (m2, .inr (4, [.int 0, .ref td, .int 0]))] H := hP
  have hD : va_D A [(m0, .inr (20, [.int 0, .int 0, .ref m1, .ref m2, .ref m3, .int 0, .ref m4, .ref m5, .ref m6, .int 0, .ref m7, .ref m8, .ref m9, .int 0, .ref m10, .int 0, .ref m11, .ref m12, .ref m13, .int 0, .ref m14, .int 0, .int 0, .int 0, .ref m15, .ref m16])), (m2, .inr (4, [.int 0, .ref td, .int 0]))] := hD
  refine W.widen (k := 0) (n := 0) (Nat.le_of_ble_eq_true rfl) (Nat.le_of_ble_eq_true rfl) ?_
  refine lv_if_ne (tgt := 22) hx hb dX16_addHead_11 (by decide) (fun _ => ?_) (fun c0 => absurd c0 (by decide))
  refine lv_iconst (v := 1) hx hb dX16_addHead_22 (by decide) ?_
  refine lv_goto (tgt := 27) hx hb dX16_addHead_23 (by decide) ?_
  refine lv_iconst (v := 1) hx hb dX16_addHead_27 (by decide) ?_
  refine wq_i (wc := [(m0, .inr (20, [.int 0, .int 0, .ref m1, .ref m2, .ref m3, .int 0, .ref m4, .ref m5, .ref m6, .int 0, .ref m7, .ref m8, .ref m9, .int 0, .ref m10, .int 0, .ref m11, .ref m12, .ref m13, .int 0, .ref m14, .int 0, .int 0, .int 0, .ref m15, .ref m16]))]) (wr := [(m2, .inr (4, [.int 0, .ref td, .int 0]))]) (va_runV (As := [.int 1, .int 1]) (rest := []) ⟨hx, hb, hml, hown, hts⟩ (k_X16_fails_1_1 l D ty td mi H.size m0 m1 m2 m3 m4 m5 m6 m7 m8 m9 m10 m11 m12 m13 m14 m15 m16 0) (cwV 2 hts gv_k_X16_addHead_1 rfl rfl rfl (by decide +kernel) ⟨(Nat.le_of_ble_eq_true rfl), (Nat.le_of_ble_eq_true rfl)⟩) (wq_preV hP hD hK hE hS hA [0] rfl (by decide) 0 20 rfl rfl) rfl rfl hl.1 rfl (lv_room (Nat.le_of_ble_eq_true rfl)) dX16_addHead_28 ⟨(Nat.le_of_ble_eq_true rfl), (Nat.le_of_ble_eq_true rfl)⟩) hS hA hP hD [0] [1] rfl rfl (by decide) (by decide) (fun r u H locs hw hP hD hS => ?_)
  obtain ⟨rfl, rfl⟩ := hw
  have hP : va_P D vwCl [(m2, .inr (4, [.int 0, .ref td, .int 0])), (m0, .inr (20, [.int 1, .int 0, .ref m1, .ref m2, .ref m3, .int 0, .ref m4, .ref m5, .ref m6, .int 0, .ref m7, .ref m8, .ref m9, .int 0, .ref m10, .int 0, .ref m11, .ref m12, .ref m13, .int 0, .ref m14, .int 0, .int 0, .int 0, .ref m15, .ref m16]))] H := hP
  have hD : va_D A [(m2, .inr (4, [.int 0, .ref td, .int 0])), (m0, .inr (20, [.int 1, .int 0, .ref m1, .ref m2, .ref m3, .int 0, .ref m4, .ref m5, .ref m6, .int 0, .ref m7, .ref m8, .ref m9, .int 0, .ref m10, .int 0, .ref m11, .ref m12, .ref m13, .int 0, .ref m14, .int 0, .int 0, .int 0, .ref m15, .ref m16]))] := hD
  refine W.widen (k := 0) (n := 0) (Nat.le_of_ble_eq_true rfl) (Nat.le_of_ble_eq_true rfl) ?_
  refine lv_if_ne (tgt := 103) hx hb dX16_addHead_31 (by decide) (fun _ => ?_) (fun c0 => absurd c0 (by decide))
  refine lv_iconst (v := 0) hx hb dX16_addHead_103 (by decide) ?_
  have hP9 := hP.sub (ws' := [(m0, .inr (20, [.int 1, .int 0, .ref m1, .ref m2, .ref m3, .int 0, .ref m4, .ref m5, .ref m6, .int 0, .ref m7, .ref m8, .ref m9, .int 0, .ref m10, .int 0, .ref m11, .ref m12, .ref m13, .int 0, .ref m14, .int 0, .int 0, .int 0, .ref m15, .ref m16]))]) [1] rfl
  have hD9 := hD.sub (ws' := [(m0, .inr (20, [.int 1, .int 0, .ref m1, .ref m2, .ref m3, .int 0, .ref m4, .ref m5, .ref m6, .int 0, .ref m7, .ref m8, .ref m9, .int 0, .ref m10, .int 0, .ref m11, .ref m12, .ref m13, .int 0, .ref m14, .int 0, .int 0, .int 0, .ref m15, .ref m16]))]) [1] (by decide) rfl
  refine W.widen (k := 0) (n := 0) (Nat.le_of_ble_eq_true rfl) (Nat.le_of_ble_eq_true rfl) ?_
  exact W.iret (v := 0) hx hb hr (fun t ht hW => ⟨⟨0, [(m0, .inr (20, [.int 1, .int 0, .ref m1, .ref m2, .ref m3, .int 0, .ref m4, .ref m5, .ref m6, .int 0, .ref m7, .ref m8, .ref m9, .int 0, .ref m10, .int 0, .ref m11, .ref m12, .ref m13, .int 0, .ref m14, .int 0, .int 0, .int 0, .ref m15, .ref m16]))], rfl, ⟨rfl, rfl⟩, wq_B.of ht hP9 hD9⟩, hS.F ht⟩) hS.2.2 dX16_addHead_104
def vs_k_X16_addAtom : List Cond := .code yX16_addAtom cX16_addAtom 7 (some .int) :: ([.fieldLink RX16 65 "AnswerFoldModel" "thrown" "I", .methodLink RX16 128 yX16_noRule, .instanceMethod yX16_noRule, .selects RX16 yX16_noRule yX16_noRule, .initialized RX16, .methodLink RX16 87 yX16_fails, .instanceMethod yX16_fails, .selects RX16 yX16_fails yX16_fails] ++ (u_ws RX16 TX16 26 ++ (vs_k_X16_noRule ++ (vs_k_X16_fails_1_1))))
theorem iv_k_X16_addAtom_X16 : ∀ w ∈ u_ws RX16 TX16 26, w ∈ vs_k_X16_addAtom := (fun _ h => List.mem_cons_of_mem _ (List.mem_append_right _ (List.mem_append_left _ h)))
set_option maxRecDepth 20000 in
theorem gv_k_X16_addAtom_0 : GoodIn vs_k_X16_addAtom (wsV RX16 128 RX16 yX16_noRule vs_k_X16_noRule) := goodIn_app (goodIn_sub (by decide +kernel) (by decide +kernel)) (goodIn_sub (fun _ h => List.mem_cons_of_mem _ (List.mem_append_right _ (List.mem_append_right _ (List.mem_append_left _ h)))) (by decide +kernel))
set_option maxRecDepth 20000 in
theorem gv_k_X16_addAtom_1 : GoodIn vs_k_X16_addAtom (wsV RX16 87 RX16 yX16_fails vs_k_X16_fails_1_1) := goodIn_app (goodIn_sub (by decide +kernel) (by decide +kernel)) (goodIn_sub (fun _ h => List.mem_cons_of_mem _ (List.mem_append_right _ (List.mem_append_right _ (List.mem_append_right _ (h))))) (by decide +kernel))
set_option maxHeartbeats 4000000 in
set_option maxRecDepth 100000 in
theorem k_X16_addAtom (l : Launch) (D : va_G) (ty : Nat → ClassId) (td mi sz : Nat) (m0 : Nat) (m1 : Nat) (m2 : Nat) (m3 : Nat) (m4 : Nat) (m5 : Nat) (m6 : Nat) (m7 : Nat) (m8 : Nat) (m9 : Nat) (m10 : Nat) (m11 : Nat) (m12 : Nat) (m13 : Nat) (m14 : Nat) (m15 : Nat) (m16 : Nat) (k1 : Int32) (k2 : Int32) (k3 : Int32) (k4 : Int32) (k5 : Int32) : Met l yX16_addAtom vs_k_X16_addAtom { frames := 2, cells := 0, slots := 0, locals := 43 } (va_Pc [.ref m0, .int k1, .int k2, .int k3, .int k4, .int k5] (wq_P D ty td mi [(m0, .inr (20, [.int 0, .int 0, .ref m1, .ref m2, .ref m3, .int 0, .ref m4, .ref m5, .ref m6, .int 0, .ref m7, .ref m8, .ref m9, .int 0, .ref m10, .int 0, .ref m11, .ref m12, .ref m13, .int 0, .ref m14, .int 0, .int 0, .int 0, .ref m15, .ref m16])), (m2, .inr (4, [.int 0, .ref td, .int 0]))] sz)) (va_Qi (fun (r : Int32) (u : va_W) => (r = 0 ∧ (u = [(m0, .inr (20, [.int 1, .int 0, .ref m1, .ref m2, .ref m3, .int 0, .ref m4, .ref m5, .ref m6, .int 0, .ref m7, .ref m8, .ref m9, .int 0, .ref m10, .int 0, .ref m11, .ref m12, .ref m13, .int 0, .ref m14, .int 0, .int 0, .int 0, .ref m15, .ref m16]))]))) (wq_B D (va_A [(m0, .inr (20, [.int 0, .int 0, .ref m1, .ref m2, .ref m3, .int 0, .ref m4, .ref m5, .ref m6, .int 0, .ref m7, .ref m8, .ref m9, .int 0, .ref m10, .int 0, .ref m11, .ref m12, .ref m13, .int 0, .ref m14, .int 0, .int 0, .int 0, .ref m15, .ref m16])), (m2, .inr (4, [.int 0, .ref td, .int 0]))] sz)) (va_A [(m0, .inr (20, [.int 0, .int 0, .ref m1, .ref m2, .ref m3, .int 0, .ref m4, .ref m5, .ref m6, .int 0, .ref m7, .ref m8, .ref m9, .int 0, .ref m10, .int 0, .ref m11, .ref m12, .ref m13, .int 0, .ref m14, .int 0, .int 0, .int 0, .ref m15, .ref m16])), (m2, .inr (4, [.int 0, .ref td, .int 0]))] sz)) 0 0 (va_A [(m0, .inr (20, [.int 0, .int 0, .ref m1, .ref m2, .ref m3, .int 0, .ref m4, .ref m5, .ref m6, .int 0, .ref m7, .ref m8, .ref m9, .int 0, .ref m10, .int 0, .ref m11, .ref m12, .ref m13, .int 0, .ref m14, .int 0, .int 0, .int 0, .ref m15, .ref m16])), (m2, .inr (4, [.int 0, .ref td, .int 0]))] sz) := by
  refine Met.ofW (cc := cX16_addAtom) (maxL := 7) (ret := (some .int)) (by decide) rfl ?_
  intro p e s m args below meth c s₁ B hml hv
  obtain ⟨rfl, hsz, hP, hK, hD0, hE⟩ := hv
  have hx := B.exec
  have hb := B.bytes
  have hr := B.returns
  have hts := atoms_spec (ws := vs_k_X16_addAtom) B.pre
  have hown : s.vm.findClass RX16 = some m.cls := findClass_of_methodNamed B.named
  have hlocks := B.notSynchronized
  subst hsz
  have hD := hD0.self (sz := s.heap.size)
  generalize hAe : va_A [(m0, .inr (20, [.int 0, .int 0, .ref m1, .ref m2, .ref m3, .int 0, .ref m4, .ref m5, .ref m6, .int 0, .ref m7, .ref m8, .ref m9, .int 0, .ref m10, .int 0, .ref m11, .ref m12, .ref m13, .int 0, .ref m14, .int 0, .int 0, .int 0, .ref m15, .ref m16])), (m2, .inr (4, [.int 0, .ref td, .int 0]))] s.heap.size = A at hD hE ⊢
  have hA : ∀ q : Nat, s.heap.size ≤ q → A q := fun q h => by rw [← hAe]; exact Or.inr h
  have hS : va_S A s.heap s.heap [] := va_S.rf
  have hP : va_P D vwCl [(m0, .inr (20, [.int 0, .int 0, .ref m1, .ref m2, .ref m3, .int 0, .ref m4, .ref m5, .ref m6, .int 0, .ref m7, .ref m8, .ref m9, .int 0, .ref m10, .int 0, .ref m11, .ref m12, .ref m13, .int 0, .ref m14, .int 0, .int 0, .int 0, .ref m15, .ref m16])), (m2, .inr (4, [.int 0, .ref td, .int 0]))] s.heap := hP
  have hl := lv_entry ([.ref m0, .int k1, .int k2, .int k3, .int k4, .int k5]) (n := 7) (Nat.le_of_ble_eq_true rfl)
  rw [lg_entry_eq]
  generalize (lg_sl ([.ref m0, .int k1, .int k2, .int k3, .int k4, .int k5]) ++ List.replicate (7 - (lg_sl ([.ref m0, .int k1, .int k2, .int k3, .int k4, .int k5])).length) Slot.unset).toArray = ls at hl ⊢
  have hl : lv_has ls 7 [(0, .ref m0), (1, .int k1), (2, .int k2), (3, .int k3), (4, .int k4), (5, .int k5)] := hl
  refine lv_aload_n hx hb dX16_addAtom_0 rfl (lv_at hl 0 rfl) ?_
  refine lv_iconst (v := 0) hx hb dX16_addAtom_1 (by decide) ?_
  refine va_put (D := D) (ci := 20) (v := .int 0) (ty := tyX16 0) (C := RX16) (T := TX16) (N := 26) hx hb hts iv_k_X16_addAtom_X16 tyX16 tyX16_ok nmX16 hown hK hP hD hS 0 rfl rfl 0 (by decide) (hts (.fieldLink RX16 65 "AnswerFoldModel" "thrown" "I") (by decide +kernel)) (fun _ h9 => h9) rfl (by decide +kernel) rfl rfl (Nat.le_of_ble_eq_true rfl) dX16_addAtom_2 (fun H locs hP hD hS => ?_)
  have hP : va_P D vwCl [(m0, .inr (20, [.int 0, .int 0, .ref m1, .ref m2, .ref m3, .int 0, .ref m4, .ref m5, .ref m6, .int 0, .ref m7, .ref m8, .ref m9, .int 0, .ref m10, .int 0, .ref m11, .ref m12, .ref m13, .int 0, .ref m14, .int 0, .int 0, .int 0, .ref m15, .ref m16])), (m2, .inr (4, [.int 0, .ref td, .int 0]))] H := hP
  have hD : va_D A [(m0, .inr (20, [.int 0, .int 0, .ref m1, .ref m2, .ref m3, .int 0, .ref m4, .ref m5, .ref m6, .int 0, .ref m7, .ref m8, .ref m9, .int 0, .ref m10, .int 0, .ref m11, .ref m12, .ref m13, .int 0, .ref m14, .int 0, .int 0, .int 0, .ref m15, .ref m16])), (m2, .inr (4, [.int 0, .ref td, .int 0]))] := hD
  refine lv_aload_n hx hb dX16_addAtom_5 rfl (lv_at hl 0 rfl) ?_
  refine lv_aload_n hx hb dX16_addAtom_6 rfl (lv_at hl 0 rfl) ?_
  refine lv_iload_n hx hb dX16_addAtom_7 rfl (lv_at hl 1 rfl) ?_
  refine wq_i (wc := [(m0, .inr (20, [.int 0, .int 0, .ref m1, .ref m2, .ref m3, .int 0, .ref m4, .ref m5, .ref m6, .int 0, .ref m7, .ref m8, .ref m9, .int 0, .ref m10, .int 0, .ref m11, .ref m12, .ref m13, .int 0, .ref m14, .int 0, .int 0, .int 0, .ref m15, .ref m16])), (m2, .inr (4, [.int 0, .ref td, .int 0]))]) (wr := []) (va_runV (As := [.int k1]) (rest := [.ref m0]) ⟨hx, hb, hml, hown, hts⟩ (k_X16_noRule l D ty td mi H.size m0 m1 m2 m3 m4 m5 m6 m7 m8 m9 m10 m11 m12 m13 m14 m15 m16 k1) (cwV 1 hts gv_k_X16_addAtom_0 rfl rfl rfl (by decide +kernel) ⟨(Nat.le_of_ble_eq_true rfl), (Nat.le_of_ble_eq_true rfl)⟩) (wq_preV hP hD hK hE hS hA [0, 1] rfl (by decide) 0 20 rfl rfl) rfl rfl hl.1 rfl (lv_room (Nat.le_of_ble_eq_true rfl)) dX16_addAtom_8 ⟨(Nat.le_of_ble_eq_true rfl), (Nat.le_of_ble_eq_true rfl)⟩) hS hA hP hD [0, 1] [] rfl rfl (by decide) (by decide) (fun r u H locs hw hP hD hS => ?_)
  obtain ⟨rfl, rfl⟩ := hw
  have hP : va_P D vwCl [(m0, .inr (20, [.int 0, .int 0, .ref m1, .ref m2, .ref m3, .int 0, .ref m4, .ref m5, .ref m6, .int 0, .ref m7, .ref m8, .ref m9, .int 0, .ref m10, .int 0, .ref m11, .ref m12, .ref m13, .int 0, .ref m14, .int 0, .int 0, .int 0, .ref m15, .ref m16])), (m2, .inr (4, [.int 0, .ref td, .int 0]))] H := hP
  have hD : va_D A [(m0, .inr (20, [.int 0, .int 0, .ref m1, .ref m2, .ref m3, .int 0, .ref m4, .ref m5, .ref m6, .int 0, .ref m7, .ref m8, .ref m9, .int 0, .ref m10, .int 0, .ref m11, .ref m12, .ref m13, .int 0, .ref m14, .int 0, .int 0, .int 0, .ref m15, .ref m16])), (m2, .inr (4, [.int 0, .ref td, .int 0]))] := hD
  refine W.widen (k := 0) (n := 0) (Nat.le_of_ble_eq_true rfl) (Nat.le_of_ble_eq_true rfl) ?_
  refine lv_if_ne (tgt := 22) hx hb dX16_addAtom_11 (by decide) (fun _ => ?_) (fun c0 => absurd c0 (by decide))
  refine lv_iconst (v := 1) hx hb dX16_addAtom_22 (by decide) ?_
  refine lv_goto (tgt := 27) hx hb dX16_addAtom_23 (by decide) ?_
  refine lv_iconst (v := 1) hx hb dX16_addAtom_27 (by decide) ?_
  refine wq_i (wc := [(m0, .inr (20, [.int 0, .int 0, .ref m1, .ref m2, .ref m3, .int 0, .ref m4, .ref m5, .ref m6, .int 0, .ref m7, .ref m8, .ref m9, .int 0, .ref m10, .int 0, .ref m11, .ref m12, .ref m13, .int 0, .ref m14, .int 0, .int 0, .int 0, .ref m15, .ref m16]))]) (wr := [(m2, .inr (4, [.int 0, .ref td, .int 0]))]) (va_runV (As := [.int 1, .int 1]) (rest := []) ⟨hx, hb, hml, hown, hts⟩ (k_X16_fails_1_1 l D ty td mi H.size m0 m1 m2 m3 m4 m5 m6 m7 m8 m9 m10 m11 m12 m13 m14 m15 m16 0) (cwV 2 hts gv_k_X16_addAtom_1 rfl rfl rfl (by decide +kernel) ⟨(Nat.le_of_ble_eq_true rfl), (Nat.le_of_ble_eq_true rfl)⟩) (wq_preV hP hD hK hE hS hA [0] rfl (by decide) 0 20 rfl rfl) rfl rfl hl.1 rfl (lv_room (Nat.le_of_ble_eq_true rfl)) dX16_addAtom_28 ⟨(Nat.le_of_ble_eq_true rfl), (Nat.le_of_ble_eq_true rfl)⟩) hS hA hP hD [0] [1] rfl rfl (by decide) (by decide) (fun r u H locs hw hP hD hS => ?_)
  obtain ⟨rfl, rfl⟩ := hw
  have hP : va_P D vwCl [(m2, .inr (4, [.int 0, .ref td, .int 0])), (m0, .inr (20, [.int 1, .int 0, .ref m1, .ref m2, .ref m3, .int 0, .ref m4, .ref m5, .ref m6, .int 0, .ref m7, .ref m8, .ref m9, .int 0, .ref m10, .int 0, .ref m11, .ref m12, .ref m13, .int 0, .ref m14, .int 0, .int 0, .int 0, .ref m15, .ref m16]))] H := hP
  have hD : va_D A [(m2, .inr (4, [.int 0, .ref td, .int 0])), (m0, .inr (20, [.int 1, .int 0, .ref m1, .ref m2, .ref m3, .int 0, .ref m4, .ref m5, .ref m6, .int 0, .ref m7, .ref m8, .ref m9, .int 0, .ref m10, .int 0, .ref m11, .ref m12, .ref m13, .int 0, .ref m14, .int 0, .int 0, .int 0, .ref m15, .ref m16]))] := hD
  refine W.widen (k := 0) (n := 0) (Nat.le_of_ble_eq_true rfl) (Nat.le_of_ble_eq_true rfl) ?_
  refine lv_if_eq (tgt := 36) hx hb dX16_addAtom_31 (by decide) (fun c0 => absurd c0 (by decide)) (fun _ => ?_)
  refine lv_iconst (v := 0) hx hb dX16_addAtom_34 (by decide) ?_
  have hP9 := hP.sub (ws' := [(m0, .inr (20, [.int 1, .int 0, .ref m1, .ref m2, .ref m3, .int 0, .ref m4, .ref m5, .ref m6, .int 0, .ref m7, .ref m8, .ref m9, .int 0, .ref m10, .int 0, .ref m11, .ref m12, .ref m13, .int 0, .ref m14, .int 0, .int 0, .int 0, .ref m15, .ref m16]))]) [1] rfl
  have hD9 := hD.sub (ws' := [(m0, .inr (20, [.int 1, .int 0, .ref m1, .ref m2, .ref m3, .int 0, .ref m4, .ref m5, .ref m6, .int 0, .ref m7, .ref m8, .ref m9, .int 0, .ref m10, .int 0, .ref m11, .ref m12, .ref m13, .int 0, .ref m14, .int 0, .int 0, .int 0, .ref m15, .ref m16]))]) [1] (by decide) rfl
  refine W.widen (k := 0) (n := 0) (Nat.le_of_ble_eq_true rfl) (Nat.le_of_ble_eq_true rfl) ?_
  exact W.iret (v := 0) hx hb hr (fun t ht hW => ⟨⟨0, [(m0, .inr (20, [.int 1, .int 0, .ref m1, .ref m2, .ref m3, .int 0, .ref m4, .ref m5, .ref m6, .int 0, .ref m7, .ref m8, .ref m9, .int 0, .ref m10, .int 0, .ref m11, .ref m12, .ref m13, .int 0, .ref m14, .int 0, .int 0, .int 0, .ref m15, .ref m16]))], rfl, ⟨rfl, rfl⟩, wq_B.of ht hP9 hD9⟩, hS.F ht⟩) hS.2.2 dX16_addAtom_35
def vs_k_X16_addTest : List Cond := .code yX16_addTest cX16_addTest 6 (some .int) :: ([.fieldLink RX16 65 "AnswerFoldModel" "thrown" "I", .methodLink RX16 128 yX16_noRule, .instanceMethod yX16_noRule, .selects RX16 yX16_noRule yX16_noRule, .initialized RX16, .methodLink RX16 87 yX16_fails, .instanceMethod yX16_fails, .selects RX16 yX16_fails yX16_fails] ++ (u_ws RX16 TX16 26 ++ (vs_k_X16_noRule ++ (vs_k_X16_fails_1_1))))
theorem iv_k_X16_addTest_X16 : ∀ w ∈ u_ws RX16 TX16 26, w ∈ vs_k_X16_addTest := (fun _ h => List.mem_cons_of_mem _ (List.mem_append_right _ (List.mem_append_left _ h)))
set_option maxRecDepth 20000 in
theorem gv_k_X16_addTest_0 : GoodIn vs_k_X16_addTest (wsV RX16 128 RX16 yX16_noRule vs_k_X16_noRule) := goodIn_app (goodIn_sub (by decide +kernel) (by decide +kernel)) (goodIn_sub (fun _ h => List.mem_cons_of_mem _ (List.mem_append_right _ (List.mem_append_right _ (List.mem_append_left _ h)))) (by decide +kernel))
set_option maxRecDepth 20000 in
theorem gv_k_X16_addTest_1 : GoodIn vs_k_X16_addTest (wsV RX16 87 RX16 yX16_fails vs_k_X16_fails_1_1) := goodIn_app (goodIn_sub (by decide +kernel) (by decide +kernel)) (goodIn_sub (fun _ h => List.mem_cons_of_mem _ (List.mem_append_right _ (List.mem_append_right _ (List.mem_append_right _ (h))))) (by decide +kernel))
set_option maxHeartbeats 4000000 in
set_option maxRecDepth 100000 in
theorem k_X16_addTest (l : Launch) (D : va_G) (ty : Nat → ClassId) (td mi sz : Nat) (m0 : Nat) (m1 : Nat) (m2 : Nat) (m3 : Nat) (m4 : Nat) (m5 : Nat) (m6 : Nat) (m7 : Nat) (m8 : Nat) (m9 : Nat) (m10 : Nat) (m11 : Nat) (m12 : Nat) (m13 : Nat) (m14 : Nat) (m15 : Nat) (m16 : Nat) (k1 : Int32) (k2 : Int32) (k3 : Int32) (k4 : Int32) : Met l yX16_addTest vs_k_X16_addTest { frames := 2, cells := 0, slots := 0, locals := 43 } (va_Pc [.ref m0, .int k1, .int k2, .int k3, .int k4] (wq_P D ty td mi [(m0, .inr (20, [.int 0, .int 0, .ref m1, .ref m2, .ref m3, .int 0, .ref m4, .ref m5, .ref m6, .int 0, .ref m7, .ref m8, .ref m9, .int 0, .ref m10, .int 0, .ref m11, .ref m12, .ref m13, .int 0, .ref m14, .int 0, .int 0, .int 0, .ref m15, .ref m16])), (m2, .inr (4, [.int 0, .ref td, .int 0]))] sz)) (va_Qi (fun (r : Int32) (u : va_W) => (r = 0 ∧ (u = [(m0, .inr (20, [.int 1, .int 0, .ref m1, .ref m2, .ref m3, .int 0, .ref m4, .ref m5, .ref m6, .int 0, .ref m7, .ref m8, .ref m9, .int 0, .ref m10, .int 0, .ref m11, .ref m12, .ref m13, .int 0, .ref m14, .int 0, .int 0, .int 0, .ref m15, .ref m16]))]))) (wq_B D (va_A [(m0, .inr (20, [.int 0, .int 0, .ref m1, .ref m2, .ref m3, .int 0, .ref m4, .ref m5, .ref m6, .int 0, .ref m7, .ref m8, .ref m9, .int 0, .ref m10, .int 0, .ref m11, .ref m12, .ref m13, .int 0, .ref m14, .int 0, .int 0, .int 0, .ref m15, .ref m16])), (m2, .inr (4, [.int 0, .ref td, .int 0]))] sz)) (va_A [(m0, .inr (20, [.int 0, .int 0, .ref m1, .ref m2, .ref m3, .int 0, .ref m4, .ref m5, .ref m6, .int 0, .ref m7, .ref m8, .ref m9, .int 0, .ref m10, .int 0, .ref m11, .ref m12, .ref m13, .int 0, .ref m14, .int 0, .int 0, .int 0, .ref m15, .ref m16])), (m2, .inr (4, [.int 0, .ref td, .int 0]))] sz)) 0 0 (va_A [(m0, .inr (20, [.int 0, .int 0, .ref m1, .ref m2, .ref m3, .int 0, .ref m4, .ref m5, .ref m6, .int 0, .ref m7, .ref m8, .ref m9, .int 0, .ref m10, .int 0, .ref m11, .ref m12, .ref m13, .int 0, .ref m14, .int 0, .int 0, .int 0, .ref m15, .ref m16])), (m2, .inr (4, [.int 0, .ref td, .int 0]))] sz) := by
  refine Met.ofW (cc := cX16_addTest) (maxL := 6) (ret := (some .int)) (by decide) rfl ?_
  intro p e s m args below meth c s₁ B hml hv
  obtain ⟨rfl, hsz, hP, hK, hD0, hE⟩ := hv
  have hx := B.exec
  have hb := B.bytes
  have hr := B.returns
  have hts := atoms_spec (ws := vs_k_X16_addTest) B.pre
  have hown : s.vm.findClass RX16 = some m.cls := findClass_of_methodNamed B.named
  have hlocks := B.notSynchronized
  subst hsz
  have hD := hD0.self (sz := s.heap.size)
  generalize hAe : va_A [(m0, .inr (20, [.int 0, .int 0, .ref m1, .ref m2, .ref m3, .int 0, .ref m4, .ref m5, .ref m6, .int 0, .ref m7, .ref m8, .ref m9, .int 0, .ref m10, .int 0, .ref m11, .ref m12, .ref m13, .int 0, .ref m14, .int 0, .int 0, .int 0, .ref m15, .ref m16])), (m2, .inr (4, [.int 0, .ref td, .int 0]))] s.heap.size = A at hD hE ⊢
  have hA : ∀ q : Nat, s.heap.size ≤ q → A q := fun q h => by rw [← hAe]; exact Or.inr h
  have hS : va_S A s.heap s.heap [] := va_S.rf
  have hP : va_P D vwCl [(m0, .inr (20, [.int 0, .int 0, .ref m1, .ref m2, .ref m3, .int 0, .ref m4, .ref m5, .ref m6, .int 0, .ref m7, .ref m8, .ref m9, .int 0, .ref m10, .int 0, .ref m11, .ref m12, .ref m13, .int 0, .ref m14, .int 0, .int 0, .int 0, .ref m15, .ref m16])), (m2, .inr (4, [.int 0, .ref td, .int 0]))] s.heap := hP
  have hl := lv_entry ([.ref m0, .int k1, .int k2, .int k3, .int k4]) (n := 6) (Nat.le_of_ble_eq_true rfl)
  rw [lg_entry_eq]
  generalize (lg_sl ([.ref m0, .int k1, .int k2, .int k3, .int k4]) ++ List.replicate (6 - (lg_sl ([.ref m0, .int k1, .int k2, .int k3, .int k4])).length) Slot.unset).toArray = ls at hl ⊢
  have hl : lv_has ls 6 [(0, .ref m0), (1, .int k1), (2, .int k2), (3, .int k3), (4, .int k4)] := hl
  refine lv_aload_n hx hb dX16_addTest_0 rfl (lv_at hl 0 rfl) ?_
  refine lv_iconst (v := 0) hx hb dX16_addTest_1 (by decide) ?_
  refine va_put (D := D) (ci := 20) (v := .int 0) (ty := tyX16 0) (C := RX16) (T := TX16) (N := 26) hx hb hts iv_k_X16_addTest_X16 tyX16 tyX16_ok nmX16 hown hK hP hD hS 0 rfl rfl 0 (by decide) (hts (.fieldLink RX16 65 "AnswerFoldModel" "thrown" "I") (by decide +kernel)) (fun _ h9 => h9) rfl (by decide +kernel) rfl rfl (Nat.le_of_ble_eq_true rfl) dX16_addTest_2 (fun H locs hP hD hS => ?_)
  have hP : va_P D vwCl [(m0, .inr (20, [.int 0, .int 0, .ref m1, .ref m2, .ref m3, .int 0, .ref m4, .ref m5, .ref m6, .int 0, .ref m7, .ref m8, .ref m9, .int 0, .ref m10, .int 0, .ref m11, .ref m12, .ref m13, .int 0, .ref m14, .int 0, .int 0, .int 0, .ref m15, .ref m16])), (m2, .inr (4, [.int 0, .ref td, .int 0]))] H := hP
  have hD : va_D A [(m0, .inr (20, [.int 0, .int 0, .ref m1, .ref m2, .ref m3, .int 0, .ref m4, .ref m5, .ref m6, .int 0, .ref m7, .ref m8, .ref m9, .int 0, .ref m10, .int 0, .ref m11, .ref m12, .ref m13, .int 0, .ref m14, .int 0, .int 0, .int 0, .ref m15, .ref m16])), (m2, .inr (4, [.int 0, .ref td, .int 0]))] := hD
  refine lv_aload_n hx hb dX16_addTest_5 rfl (lv_at hl 0 rfl) ?_
  refine lv_aload_n hx hb dX16_addTest_6 rfl (lv_at hl 0 rfl) ?_
  refine lv_iload_n hx hb dX16_addTest_7 rfl (lv_at hl 1 rfl) ?_
  refine wq_i (wc := [(m0, .inr (20, [.int 0, .int 0, .ref m1, .ref m2, .ref m3, .int 0, .ref m4, .ref m5, .ref m6, .int 0, .ref m7, .ref m8, .ref m9, .int 0, .ref m10, .int 0, .ref m11, .ref m12, .ref m13, .int 0, .ref m14, .int 0, .int 0, .int 0, .ref m15, .ref m16])), (m2, .inr (4, [.int 0, .ref td, .int 0]))]) (wr := []) (va_runV (As := [.int k1]) (rest := [.ref m0]) ⟨hx, hb, hml, hown, hts⟩ (k_X16_noRule l D ty td mi H.size m0 m1 m2 m3 m4 m5 m6 m7 m8 m9 m10 m11 m12 m13 m14 m15 m16 k1) (cwV 1 hts gv_k_X16_addTest_0 rfl rfl rfl (by decide +kernel) ⟨(Nat.le_of_ble_eq_true rfl), (Nat.le_of_ble_eq_true rfl)⟩) (wq_preV hP hD hK hE hS hA [0, 1] rfl (by decide) 0 20 rfl rfl) rfl rfl hl.1 rfl (lv_room (Nat.le_of_ble_eq_true rfl)) dX16_addTest_8 ⟨(Nat.le_of_ble_eq_true rfl), (Nat.le_of_ble_eq_true rfl)⟩) hS hA hP hD [0, 1] [] rfl rfl (by decide) (by decide) (fun r u H locs hw hP hD hS => ?_)
  obtain ⟨rfl, rfl⟩ := hw
  have hP : va_P D vwCl [(m0, .inr (20, [.int 0, .int 0, .ref m1, .ref m2, .ref m3, .int 0, .ref m4, .ref m5, .ref m6, .int 0, .ref m7, .ref m8, .ref m9, .int 0, .ref m10, .int 0, .ref m11, .ref m12, .ref m13, .int 0, .ref m14, .int 0, .int 0, .int 0, .ref m15, .ref m16])), (m2, .inr (4, [.int 0, .ref td, .int 0]))] H := hP
  have hD : va_D A [(m0, .inr (20, [.int 0, .int 0, .ref m1, .ref m2, .ref m3, .int 0, .ref m4, .ref m5, .ref m6, .int 0, .ref m7, .ref m8, .ref m9, .int 0, .ref m10, .int 0, .ref m11, .ref m12, .ref m13, .int 0, .ref m14, .int 0, .int 0, .int 0, .ref m15, .ref m16])), (m2, .inr (4, [.int 0, .ref td, .int 0]))] := hD
  refine W.widen (k := 0) (n := 0) (Nat.le_of_ble_eq_true rfl) (Nat.le_of_ble_eq_true rfl) ?_
  refine lv_iconst (v := 1) hx hb dX16_addTest_11 (by decide) ?_
  refine wq_i (wc := [(m0, .inr (20, [.int 0, .int 0, .ref m1, .ref m2, .ref m3, .int 0, .ref m4, .ref m5, .ref m6, .int 0, .ref m7, .ref m8, .ref m9, .int 0, .ref m10, .int 0, .ref m11, .ref m12, .ref m13, .int 0, .ref m14, .int 0, .int 0, .int 0, .ref m15, .ref m16]))]) (wr := [(m2, .inr (4, [.int 0, .ref td, .int 0]))]) (va_runV (As := [.int 1, .int 1]) (rest := []) ⟨hx, hb, hml, hown, hts⟩ (k_X16_fails_1_1 l D ty td mi H.size m0 m1 m2 m3 m4 m5 m6 m7 m8 m9 m10 m11 m12 m13 m14 m15 m16 0) (cwV 2 hts gv_k_X16_addTest_1 rfl rfl rfl (by decide +kernel) ⟨(Nat.le_of_ble_eq_true rfl), (Nat.le_of_ble_eq_true rfl)⟩) (wq_preV hP hD hK hE hS hA [0] rfl (by decide) 0 20 rfl rfl) rfl rfl hl.1 rfl (lv_room (Nat.le_of_ble_eq_true rfl)) dX16_addTest_12 ⟨(Nat.le_of_ble_eq_true rfl), (Nat.le_of_ble_eq_true rfl)⟩) hS hA hP hD [0] [1] rfl rfl (by decide) (by decide) (fun r u H locs hw hP hD hS => ?_)
  obtain ⟨rfl, rfl⟩ := hw
  have hP : va_P D vwCl [(m2, .inr (4, [.int 0, .ref td, .int 0])), (m0, .inr (20, [.int 1, .int 0, .ref m1, .ref m2, .ref m3, .int 0, .ref m4, .ref m5, .ref m6, .int 0, .ref m7, .ref m8, .ref m9, .int 0, .ref m10, .int 0, .ref m11, .ref m12, .ref m13, .int 0, .ref m14, .int 0, .int 0, .int 0, .ref m15, .ref m16]))] H := hP
  have hD : va_D A [(m2, .inr (4, [.int 0, .ref td, .int 0])), (m0, .inr (20, [.int 1, .int 0, .ref m1, .ref m2, .ref m3, .int 0, .ref m4, .ref m5, .ref m6, .int 0, .ref m7, .ref m8, .ref m9, .int 0, .ref m10, .int 0, .ref m11, .ref m12, .ref m13, .int 0, .ref m14, .int 0, .int 0, .int 0, .ref m15, .ref m16]))] := hD
  refine W.widen (k := 0) (n := 0) (Nat.le_of_ble_eq_true rfl) (Nat.le_of_ble_eq_true rfl) ?_
  refine lv_if_eq (tgt := 20) hx hb dX16_addTest_15 (by decide) (fun c0 => absurd c0 (by decide)) (fun _ => ?_)
  refine lv_iconst (v := 0) hx hb dX16_addTest_18 (by decide) ?_
  have hP9 := hP.sub (ws' := [(m0, .inr (20, [.int 1, .int 0, .ref m1, .ref m2, .ref m3, .int 0, .ref m4, .ref m5, .ref m6, .int 0, .ref m7, .ref m8, .ref m9, .int 0, .ref m10, .int 0, .ref m11, .ref m12, .ref m13, .int 0, .ref m14, .int 0, .int 0, .int 0, .ref m15, .ref m16]))]) [1] rfl
  have hD9 := hD.sub (ws' := [(m0, .inr (20, [.int 1, .int 0, .ref m1, .ref m2, .ref m3, .int 0, .ref m4, .ref m5, .ref m6, .int 0, .ref m7, .ref m8, .ref m9, .int 0, .ref m10, .int 0, .ref m11, .ref m12, .ref m13, .int 0, .ref m14, .int 0, .int 0, .int 0, .ref m15, .ref m16]))]) [1] (by decide) rfl
  refine W.widen (k := 0) (n := 0) (Nat.le_of_ble_eq_true rfl) (Nat.le_of_ble_eq_true rfl) ?_
  exact W.iret (v := 0) hx hb hr (fun t ht hW => ⟨⟨0, [(m0, .inr (20, [.int 1, .int 0, .ref m1, .ref m2, .ref m3, .int 0, .ref m4, .ref m5, .ref m6, .int 0, .ref m7, .ref m8, .ref m9, .int 0, .ref m10, .int 0, .ref m11, .ref m12, .ref m13, .int 0, .ref m14, .int 0, .int 0, .int 0, .ref m15, .ref m16]))], rfl, ⟨rfl, rfl⟩, wq_B.of ht hP9 hD9⟩, hS.F ht⟩) hS.2.2 dX16_addTest_19
def vs_k_X16_addCount : List Cond := .code yX16_addCount cX16_addCount 5 (some .int) :: ([.fieldLink RX16 65 "AnswerFoldModel" "thrown" "I", .methodLink RX16 128 yX16_noRule, .instanceMethod yX16_noRule, .selects RX16 yX16_noRule yX16_noRule, .initialized RX16, .methodLink RX16 87 yX16_fails, .instanceMethod yX16_fails, .selects RX16 yX16_fails yX16_fails] ++ (u_ws RX16 TX16 26 ++ (vs_k_X16_noRule ++ (vs_k_X16_fails_1_1))))
theorem iv_k_X16_addCount_X16 : ∀ w ∈ u_ws RX16 TX16 26, w ∈ vs_k_X16_addCount := (fun _ h => List.mem_cons_of_mem _ (List.mem_append_right _ (List.mem_append_left _ h)))
set_option maxRecDepth 20000 in
theorem gv_k_X16_addCount_0 : GoodIn vs_k_X16_addCount (wsV RX16 128 RX16 yX16_noRule vs_k_X16_noRule) := goodIn_app (goodIn_sub (by decide +kernel) (by decide +kernel)) (goodIn_sub (fun _ h => List.mem_cons_of_mem _ (List.mem_append_right _ (List.mem_append_right _ (List.mem_append_left _ h)))) (by decide +kernel))
set_option maxRecDepth 20000 in
theorem gv_k_X16_addCount_1 : GoodIn vs_k_X16_addCount (wsV RX16 87 RX16 yX16_fails vs_k_X16_fails_1_1) := goodIn_app (goodIn_sub (by decide +kernel) (by decide +kernel)) (goodIn_sub (fun _ h => List.mem_cons_of_mem _ (List.mem_append_right _ (List.mem_append_right _ (List.mem_append_right _ (h))))) (by decide +kernel))
set_option maxHeartbeats 4000000 in
set_option maxRecDepth 100000 in
theorem k_X16_addCount (l : Launch) (D : va_G) (ty : Nat → ClassId) (td mi sz : Nat) (m0 : Nat) (m1 : Nat) (m2 : Nat) (m3 : Nat) (m4 : Nat) (m5 : Nat) (m6 : Nat) (m7 : Nat) (m8 : Nat) (m9 : Nat) (m10 : Nat) (m11 : Nat) (m12 : Nat) (m13 : Nat) (m14 : Nat) (m15 : Nat) (m16 : Nat) (k1 : Int32) (k2 : Int32) (k3 : Int32) (k4 : Int32) : Met l yX16_addCount vs_k_X16_addCount { frames := 2, cells := 0, slots := 0, locals := 43 } (va_Pc [.ref m0, .int k1, .int k2, .int k3, .int k4] (wq_P D ty td mi [(m0, .inr (20, [.int 0, .int 0, .ref m1, .ref m2, .ref m3, .int 0, .ref m4, .ref m5, .ref m6, .int 0, .ref m7, .ref m8, .ref m9, .int 0, .ref m10, .int 0, .ref m11, .ref m12, .ref m13, .int 0, .ref m14, .int 0, .int 0, .int 0, .ref m15, .ref m16])), (m2, .inr (4, [.int 0, .ref td, .int 0]))] sz)) (va_Qi (fun (r : Int32) (u : va_W) => (r = 0 ∧ (u = [(m0, .inr (20, [.int 1, .int 0, .ref m1, .ref m2, .ref m3, .int 0, .ref m4, .ref m5, .ref m6, .int 0, .ref m7, .ref m8, .ref m9, .int 0, .ref m10, .int 0, .ref m11, .ref m12, .ref m13, .int 0, .ref m14, .int 0, .int 0, .int 0, .ref m15, .ref m16]))]))) (wq_B D (va_A [(m0, .inr (20, [.int 0, .int 0, .ref m1, .ref m2, .ref m3, .int 0, .ref m4, .ref m5, .ref m6, .int 0, .ref m7, .ref m8, .ref m9, .int 0, .ref m10, .int 0, .ref m11, .ref m12, .ref m13, .int 0, .ref m14, .int 0, .int 0, .int 0, .ref m15, .ref m16])), (m2, .inr (4, [.int 0, .ref td, .int 0]))] sz)) (va_A [(m0, .inr (20, [.int 0, .int 0, .ref m1, .ref m2, .ref m3, .int 0, .ref m4, .ref m5, .ref m6, .int 0, .ref m7, .ref m8, .ref m9, .int 0, .ref m10, .int 0, .ref m11, .ref m12, .ref m13, .int 0, .ref m14, .int 0, .int 0, .int 0, .ref m15, .ref m16])), (m2, .inr (4, [.int 0, .ref td, .int 0]))] sz)) 0 0 (va_A [(m0, .inr (20, [.int 0, .int 0, .ref m1, .ref m2, .ref m3, .int 0, .ref m4, .ref m5, .ref m6, .int 0, .ref m7, .ref m8, .ref m9, .int 0, .ref m10, .int 0, .ref m11, .ref m12, .ref m13, .int 0, .ref m14, .int 0, .int 0, .int 0, .ref m15, .ref m16])), (m2, .inr (4, [.int 0, .ref td, .int 0]))] sz) := by
  refine Met.ofW (cc := cX16_addCount) (maxL := 5) (ret := (some .int)) (by decide) rfl ?_
  intro p e s m args below meth c s₁ B hml hv
  obtain ⟨rfl, hsz, hP, hK, hD0, hE⟩ := hv
  have hx := B.exec
  have hb := B.bytes
  have hr := B.returns
  have hts := atoms_spec (ws := vs_k_X16_addCount) B.pre
  have hown : s.vm.findClass RX16 = some m.cls := findClass_of_methodNamed B.named
  have hlocks := B.notSynchronized
  subst hsz
  have hD := hD0.self (sz := s.heap.size)
  generalize hAe : va_A [(m0, .inr (20, [.int 0, .int 0, .ref m1, .ref m2, .ref m3, .int 0, .ref m4, .ref m5, .ref m6, .int 0, .ref m7, .ref m8, .ref m9, .int 0, .ref m10, .int 0, .ref m11, .ref m12, .ref m13, .int 0, .ref m14, .int 0, .int 0, .int 0, .ref m15, .ref m16])), (m2, .inr (4, [.int 0, .ref td, .int 0]))] s.heap.size = A at hD hE ⊢
  have hA : ∀ q : Nat, s.heap.size ≤ q → A q := fun q h => by rw [← hAe]; exact Or.inr h
  have hS : va_S A s.heap s.heap [] := va_S.rf
  have hP : va_P D vwCl [(m0, .inr (20, [.int 0, .int 0, .ref m1, .ref m2, .ref m3, .int 0, .ref m4, .ref m5, .ref m6, .int 0, .ref m7, .ref m8, .ref m9, .int 0, .ref m10, .int 0, .ref m11, .ref m12, .ref m13, .int 0, .ref m14, .int 0, .int 0, .int 0, .ref m15, .ref m16])), (m2, .inr (4, [.int 0, .ref td, .int 0]))] s.heap := hP
  have hl := lv_entry ([.ref m0, .int k1, .int k2, .int k3, .int k4]) (n := 5) (Nat.le_of_ble_eq_true rfl)
  rw [lg_entry_eq]
  generalize (lg_sl ([.ref m0, .int k1, .int k2, .int k3, .int k4]) ++ List.replicate (5 - (lg_sl ([.ref m0, .int k1, .int k2, .int k3, .int k4])).length) Slot.unset).toArray = ls at hl ⊢
  have hl : lv_has ls 5 [(0, .ref m0), (1, .int k1), (2, .int k2), (3, .int k3), (4, .int k4)] := hl
  refine lv_aload_n hx hb dX16_addCount_0 rfl (lv_at hl 0 rfl) ?_
  refine lv_iconst (v := 0) hx hb dX16_addCount_1 (by decide) ?_
  refine va_put (D := D) (ci := 20) (v := .int 0) (ty := tyX16 0) (C := RX16) (T := TX16) (N := 26) hx hb hts iv_k_X16_addCount_X16 tyX16 tyX16_ok nmX16 hown hK hP hD hS 0 rfl rfl 0 (by decide) (hts (.fieldLink RX16 65 "AnswerFoldModel" "thrown" "I") (by decide +kernel)) (fun _ h9 => h9) rfl (by decide +kernel) rfl rfl (Nat.le_of_ble_eq_true rfl) dX16_addCount_2 (fun H locs hP hD hS => ?_)
  have hP : va_P D vwCl [(m0, .inr (20, [.int 0, .int 0, .ref m1, .ref m2, .ref m3, .int 0, .ref m4, .ref m5, .ref m6, .int 0, .ref m7, .ref m8, .ref m9, .int 0, .ref m10, .int 0, .ref m11, .ref m12, .ref m13, .int 0, .ref m14, .int 0, .int 0, .int 0, .ref m15, .ref m16])), (m2, .inr (4, [.int 0, .ref td, .int 0]))] H := hP
  have hD : va_D A [(m0, .inr (20, [.int 0, .int 0, .ref m1, .ref m2, .ref m3, .int 0, .ref m4, .ref m5, .ref m6, .int 0, .ref m7, .ref m8, .ref m9, .int 0, .ref m10, .int 0, .ref m11, .ref m12, .ref m13, .int 0, .ref m14, .int 0, .int 0, .int 0, .ref m15, .ref m16])), (m2, .inr (4, [.int 0, .ref td, .int 0]))] := hD
  refine lv_aload_n hx hb dX16_addCount_5 rfl (lv_at hl 0 rfl) ?_
  refine lv_aload_n hx hb dX16_addCount_6 rfl (lv_at hl 0 rfl) ?_
  refine lv_iload_n hx hb dX16_addCount_7 rfl (lv_at hl 1 rfl) ?_
  refine wq_i (wc := [(m0, .inr (20, [.int 0, .int 0, .ref m1, .ref m2, .ref m3, .int 0, .ref m4, .ref m5, .ref m6, .int 0, .ref m7, .ref m8, .ref m9, .int 0, .ref m10, .int 0, .ref m11, .ref m12, .ref m13, .int 0, .ref m14, .int 0, .int 0, .int 0, .ref m15, .ref m16])), (m2, .inr (4, [.int 0, .ref td, .int 0]))]) (wr := []) (va_runV (As := [.int k1]) (rest := [.ref m0]) ⟨hx, hb, hml, hown, hts⟩ (k_X16_noRule l D ty td mi H.size m0 m1 m2 m3 m4 m5 m6 m7 m8 m9 m10 m11 m12 m13 m14 m15 m16 k1) (cwV 1 hts gv_k_X16_addCount_0 rfl rfl rfl (by decide +kernel) ⟨(Nat.le_of_ble_eq_true rfl), (Nat.le_of_ble_eq_true rfl)⟩) (wq_preV hP hD hK hE hS hA [0, 1] rfl (by decide) 0 20 rfl rfl) rfl rfl hl.1 rfl (lv_room (Nat.le_of_ble_eq_true rfl)) dX16_addCount_8 ⟨(Nat.le_of_ble_eq_true rfl), (Nat.le_of_ble_eq_true rfl)⟩) hS hA hP hD [0, 1] [] rfl rfl (by decide) (by decide) (fun r u H locs hw hP hD hS => ?_)
  obtain ⟨rfl, rfl⟩ := hw
  have hP : va_P D vwCl [(m0, .inr (20, [.int 0, .int 0, .ref m1, .ref m2, .ref m3, .int 0, .ref m4, .ref m5, .ref m6, .int 0, .ref m7, .ref m8, .ref m9, .int 0, .ref m10, .int 0, .ref m11, .ref m12, .ref m13, .int 0, .ref m14, .int 0, .int 0, .int 0, .ref m15, .ref m16])), (m2, .inr (4, [.int 0, .ref td, .int 0]))] H := hP
  have hD : va_D A [(m0, .inr (20, [.int 0, .int 0, .ref m1, .ref m2, .ref m3, .int 0, .ref m4, .ref m5, .ref m6, .int 0, .ref m7, .ref m8, .ref m9, .int 0, .ref m10, .int 0, .ref m11, .ref m12, .ref m13, .int 0, .ref m14, .int 0, .int 0, .int 0, .ref m15, .ref m16])), (m2, .inr (4, [.int 0, .ref td, .int 0]))] := hD
  refine W.widen (k := 0) (n := 0) (Nat.le_of_ble_eq_true rfl) (Nat.le_of_ble_eq_true rfl) ?_
  refine lv_if_ne (tgt := 22) hx hb dX16_addCount_11 (by decide) (fun _ => ?_) (fun c0 => absurd c0 (by decide))
  refine lv_iconst (v := 1) hx hb dX16_addCount_22 (by decide) ?_
  refine lv_goto (tgt := 27) hx hb dX16_addCount_23 (by decide) ?_
  refine lv_iconst (v := 1) hx hb dX16_addCount_27 (by decide) ?_
  refine wq_i (wc := [(m0, .inr (20, [.int 0, .int 0, .ref m1, .ref m2, .ref m3, .int 0, .ref m4, .ref m5, .ref m6, .int 0, .ref m7, .ref m8, .ref m9, .int 0, .ref m10, .int 0, .ref m11, .ref m12, .ref m13, .int 0, .ref m14, .int 0, .int 0, .int 0, .ref m15, .ref m16]))]) (wr := [(m2, .inr (4, [.int 0, .ref td, .int 0]))]) (va_runV (As := [.int 1, .int 1]) (rest := []) ⟨hx, hb, hml, hown, hts⟩ (k_X16_fails_1_1 l D ty td mi H.size m0 m1 m2 m3 m4 m5 m6 m7 m8 m9 m10 m11 m12 m13 m14 m15 m16 0) (cwV 2 hts gv_k_X16_addCount_1 rfl rfl rfl (by decide +kernel) ⟨(Nat.le_of_ble_eq_true rfl), (Nat.le_of_ble_eq_true rfl)⟩) (wq_preV hP hD hK hE hS hA [0] rfl (by decide) 0 20 rfl rfl) rfl rfl hl.1 rfl (lv_room (Nat.le_of_ble_eq_true rfl)) dX16_addCount_28 ⟨(Nat.le_of_ble_eq_true rfl), (Nat.le_of_ble_eq_true rfl)⟩) hS hA hP hD [0] [1] rfl rfl (by decide) (by decide) (fun r u H locs hw hP hD hS => ?_)
  obtain ⟨rfl, rfl⟩ := hw
  have hP : va_P D vwCl [(m2, .inr (4, [.int 0, .ref td, .int 0])), (m0, .inr (20, [.int 1, .int 0, .ref m1, .ref m2, .ref m3, .int 0, .ref m4, .ref m5, .ref m6, .int 0, .ref m7, .ref m8, .ref m9, .int 0, .ref m10, .int 0, .ref m11, .ref m12, .ref m13, .int 0, .ref m14, .int 0, .int 0, .int 0, .ref m15, .ref m16]))] H := hP
  have hD : va_D A [(m2, .inr (4, [.int 0, .ref td, .int 0])), (m0, .inr (20, [.int 1, .int 0, .ref m1, .ref m2, .ref m3, .int 0, .ref m4, .ref m5, .ref m6, .int 0, .ref m7, .ref m8, .ref m9, .int 0, .ref m10, .int 0, .ref m11, .ref m12, .ref m13, .int 0, .ref m14, .int 0, .int 0, .int 0, .ref m15, .ref m16]))] := hD
  refine W.widen (k := 0) (n := 0) (Nat.le_of_ble_eq_true rfl) (Nat.le_of_ble_eq_true rfl) ?_
  refine lv_if_ne (tgt := 83) hx hb dX16_addCount_31 (by decide) (fun _ => ?_) (fun c0 => absurd c0 (by decide))
  refine lv_iconst (v := 0) hx hb dX16_addCount_83 (by decide) ?_
  have hP9 := hP.sub (ws' := [(m0, .inr (20, [.int 1, .int 0, .ref m1, .ref m2, .ref m3, .int 0, .ref m4, .ref m5, .ref m6, .int 0, .ref m7, .ref m8, .ref m9, .int 0, .ref m10, .int 0, .ref m11, .ref m12, .ref m13, .int 0, .ref m14, .int 0, .int 0, .int 0, .ref m15, .ref m16]))]) [1] rfl
  have hD9 := hD.sub (ws' := [(m0, .inr (20, [.int 1, .int 0, .ref m1, .ref m2, .ref m3, .int 0, .ref m4, .ref m5, .ref m6, .int 0, .ref m7, .ref m8, .ref m9, .int 0, .ref m10, .int 0, .ref m11, .ref m12, .ref m13, .int 0, .ref m14, .int 0, .int 0, .int 0, .ref m15, .ref m16]))]) [1] (by decide) rfl
  refine W.widen (k := 0) (n := 0) (Nat.le_of_ble_eq_true rfl) (Nat.le_of_ble_eq_true rfl) ?_
  exact W.iret (v := 0) hx hb hr (fun t ht hW => ⟨⟨0, [(m0, .inr (20, [.int 1, .int 0, .ref m1, .ref m2, .ref m3, .int 0, .ref m4, .ref m5, .ref m6, .int 0, .ref m7, .ref m8, .ref m9, .int 0, .ref m10, .int 0, .ref m11, .ref m12, .ref m13, .int 0, .ref m14, .int 0, .int 0, .int 0, .ref m15, .ref m16]))], rfl, ⟨rfl, rfl⟩, wq_B.of ht hP9 hD9⟩, hS.F ht⟩) hS.2.2 dX16_addCount_84
def vs_k_X16_instances : List Cond := .code yX16_instances cX16_instances 2 (some .int) :: ([.fieldLink RX16 65 "AnswerFoldModel" "thrown" "I", .methodLink RX16 128 yX16_noRule, .instanceMethod yX16_noRule, .selects RX16 yX16_noRule yX16_noRule, .initialized RX16, .methodLink RX16 87 yX16_fails, .instanceMethod yX16_fails, .selects RX16 yX16_fails yX16_fails] ++ (u_ws RX16 TX16 26 ++ (vs_k_X16_noRule ++ (vs_k_X16_fails_1_1))))
theorem iv_k_X16_instances_X16 : ∀ w ∈ u_ws RX16 TX16 26, w ∈ vs_k_X16_instances := (fun _ h => List.mem_cons_of_mem _ (List.mem_append_right _ (List.mem_append_left _ h)))
set_option maxRecDepth 20000 in
theorem gv_k_X16_instances_0 : GoodIn vs_k_X16_instances (wsV RX16 128 RX16 yX16_noRule vs_k_X16_noRule) := goodIn_app (goodIn_sub (by decide +kernel) (by decide +kernel)) (goodIn_sub (fun _ h => List.mem_cons_of_mem _ (List.mem_append_right _ (List.mem_append_right _ (List.mem_append_left _ h)))) (by decide +kernel))
set_option maxRecDepth 20000 in
theorem gv_k_X16_instances_1 : GoodIn vs_k_X16_instances (wsV RX16 87 RX16 yX16_fails vs_k_X16_fails_1_1) := goodIn_app (goodIn_sub (by decide +kernel) (by decide +kernel)) (goodIn_sub (fun _ h => List.mem_cons_of_mem _ (List.mem_append_right _ (List.mem_append_right _ (List.mem_append_right _ (h))))) (by decide +kernel))
set_option maxHeartbeats 4000000 in
set_option maxRecDepth 100000 in
theorem k_X16_instances (l : Launch) (D : va_G) (ty : Nat → ClassId) (td mi sz : Nat) (m0 : Nat) (m1 : Nat) (m2 : Nat) (m3 : Nat) (m4 : Nat) (m5 : Nat) (m6 : Nat) (m7 : Nat) (m8 : Nat) (m9 : Nat) (m10 : Nat) (m11 : Nat) (m12 : Nat) (m13 : Nat) (m14 : Nat) (m15 : Nat) (m16 : Nat) (k1 : Int32) : Met l yX16_instances vs_k_X16_instances { frames := 2, cells := 0, slots := 0, locals := 43 } (va_Pc [.ref m0, .int k1] (wq_P D ty td mi [(m0, .inr (20, [.int 0, .int 0, .ref m1, .ref m2, .ref m3, .int 0, .ref m4, .ref m5, .ref m6, .int 0, .ref m7, .ref m8, .ref m9, .int 0, .ref m10, .int 0, .ref m11, .ref m12, .ref m13, .int 0, .ref m14, .int 0, .int 0, .int 0, .ref m15, .ref m16])), (m2, .inr (4, [.int 0, .ref td, .int 0]))] sz)) (va_Qi (fun (r : Int32) (u : va_W) => (r = 0 ∧ (u = [(m0, .inr (20, [.int 1, .int 0, .ref m1, .ref m2, .ref m3, .int 0, .ref m4, .ref m5, .ref m6, .int 0, .ref m7, .ref m8, .ref m9, .int 0, .ref m10, .int 0, .ref m11, .ref m12, .ref m13, .int 0, .ref m14, .int 0, .int 0, .int 0, .ref m15, .ref m16]))]))) (wq_B D (va_A [(m0, .inr (20, [.int 0, .int 0, .ref m1, .ref m2, .ref m3, .int 0, .ref m4, .ref m5, .ref m6, .int 0, .ref m7, .ref m8, .ref m9, .int 0, .ref m10, .int 0, .ref m11, .ref m12, .ref m13, .int 0, .ref m14, .int 0, .int 0, .int 0, .ref m15, .ref m16])), (m2, .inr (4, [.int 0, .ref td, .int 0]))] sz)) (va_A [(m0, .inr (20, [.int 0, .int 0, .ref m1, .ref m2, .ref m3, .int 0, .ref m4, .ref m5, .ref m6, .int 0, .ref m7, .ref m8, .ref m9, .int 0, .ref m10, .int 0, .ref m11, .ref m12, .ref m13, .int 0, .ref m14, .int 0, .int 0, .int 0, .ref m15, .ref m16])), (m2, .inr (4, [.int 0, .ref td, .int 0]))] sz)) 0 0 (va_A [(m0, .inr (20, [.int 0, .int 0, .ref m1, .ref m2, .ref m3, .int 0, .ref m4, .ref m5, .ref m6, .int 0, .ref m7, .ref m8, .ref m9, .int 0, .ref m10, .int 0, .ref m11, .ref m12, .ref m13, .int 0, .ref m14, .int 0, .int 0, .int 0, .ref m15, .ref m16])), (m2, .inr (4, [.int 0, .ref td, .int 0]))] sz) := by
  refine Met.ofW (cc := cX16_instances) (maxL := 2) (ret := (some .int)) (by decide) rfl ?_
  intro p e s m args below meth c s₁ B hml hv
  obtain ⟨rfl, hsz, hP, hK, hD0, hE⟩ := hv
  have hx := B.exec
  have hb := B.bytes
  have hr := B.returns
  have hts := atoms_spec (ws := vs_k_X16_instances) B.pre
  have hown : s.vm.findClass RX16 = some m.cls := findClass_of_methodNamed B.named
  have hlocks := B.notSynchronized
  subst hsz
  have hD := hD0.self (sz := s.heap.size)
  generalize hAe : va_A [(m0, .inr (20, [.int 0, .int 0, .ref m1, .ref m2, .ref m3, .int 0, .ref m4, .ref m5, .ref m6, .int 0, .ref m7, .ref m8, .ref m9, .int 0, .ref m10, .int 0, .ref m11, .ref m12, .ref m13, .int 0, .ref m14, .int 0, .int 0, .int 0, .ref m15, .ref m16])), (m2, .inr (4, [.int 0, .ref td, .int 0]))] s.heap.size = A at hD hE ⊢
  have hA : ∀ q : Nat, s.heap.size ≤ q → A q := fun q h => by rw [← hAe]; exact Or.inr h
  have hS : va_S A s.heap s.heap [] := va_S.rf
  have hP : va_P D vwCl [(m0, .inr (20, [.int 0, .int 0, .ref m1, .ref m2, .ref m3, .int 0, .ref m4, .ref m5, .ref m6, .int 0, .ref m7, .ref m8, .ref m9, .int 0, .ref m10, .int 0, .ref m11, .ref m12, .ref m13, .int 0, .ref m14, .int 0, .int 0, .int 0, .ref m15, .ref m16])), (m2, .inr (4, [.int 0, .ref td, .int 0]))] s.heap := hP
  have hl := lv_entry ([.ref m0, .int k1]) (n := 2) (Nat.le_of_ble_eq_true rfl)
  rw [lg_entry_eq]
  generalize (lg_sl ([.ref m0, .int k1]) ++ List.replicate (2 - (lg_sl ([.ref m0, .int k1])).length) Slot.unset).toArray = ls at hl ⊢
  have hl : lv_has ls 2 [(0, .ref m0), (1, .int k1)] := hl
  refine lv_aload_n hx hb dX16_instances_0 rfl (lv_at hl 0 rfl) ?_
  refine lv_iconst (v := 0) hx hb dX16_instances_1 (by decide) ?_
  refine va_put (D := D) (ci := 20) (v := .int 0) (ty := tyX16 0) (C := RX16) (T := TX16) (N := 26) hx hb hts iv_k_X16_instances_X16 tyX16 tyX16_ok nmX16 hown hK hP hD hS 0 rfl rfl 0 (by decide) (hts (.fieldLink RX16 65 "AnswerFoldModel" "thrown" "I") (by decide +kernel)) (fun _ h9 => h9) rfl (by decide +kernel) rfl rfl (Nat.le_of_ble_eq_true rfl) dX16_instances_2 (fun H locs hP hD hS => ?_)
  have hP : va_P D vwCl [(m0, .inr (20, [.int 0, .int 0, .ref m1, .ref m2, .ref m3, .int 0, .ref m4, .ref m5, .ref m6, .int 0, .ref m7, .ref m8, .ref m9, .int 0, .ref m10, .int 0, .ref m11, .ref m12, .ref m13, .int 0, .ref m14, .int 0, .int 0, .int 0, .ref m15, .ref m16])), (m2, .inr (4, [.int 0, .ref td, .int 0]))] H := hP
  have hD : va_D A [(m0, .inr (20, [.int 0, .int 0, .ref m1, .ref m2, .ref m3, .int 0, .ref m4, .ref m5, .ref m6, .int 0, .ref m7, .ref m8, .ref m9, .int 0, .ref m10, .int 0, .ref m11, .ref m12, .ref m13, .int 0, .ref m14, .int 0, .int 0, .int 0, .ref m15, .ref m16])), (m2, .inr (4, [.int 0, .ref td, .int 0]))] := hD
  refine lv_aload_n hx hb dX16_instances_5 rfl (lv_at hl 0 rfl) ?_
  refine lv_aload_n hx hb dX16_instances_6 rfl (lv_at hl 0 rfl) ?_
  refine lv_iload_n hx hb dX16_instances_7 rfl (lv_at hl 1 rfl) ?_
  refine wq_i (wc := [(m0, .inr (20, [.int 0, .int 0, .ref m1, .ref m2, .ref m3, .int 0, .ref m4, .ref m5, .ref m6, .int 0, .ref m7, .ref m8, .ref m9, .int 0, .ref m10, .int 0, .ref m11, .ref m12, .ref m13, .int 0, .ref m14, .int 0, .int 0, .int 0, .ref m15, .ref m16])), (m2, .inr (4, [.int 0, .ref td, .int 0]))]) (wr := []) (va_runV (As := [.int k1]) (rest := [.ref m0]) ⟨hx, hb, hml, hown, hts⟩ (k_X16_noRule l D ty td mi H.size m0 m1 m2 m3 m4 m5 m6 m7 m8 m9 m10 m11 m12 m13 m14 m15 m16 k1) (cwV 1 hts gv_k_X16_instances_0 rfl rfl rfl (by decide +kernel) ⟨(Nat.le_of_ble_eq_true rfl), (Nat.le_of_ble_eq_true rfl)⟩) (wq_preV hP hD hK hE hS hA [0, 1] rfl (by decide) 0 20 rfl rfl) rfl rfl hl.1 rfl (lv_room (Nat.le_of_ble_eq_true rfl)) dX16_instances_8 ⟨(Nat.le_of_ble_eq_true rfl), (Nat.le_of_ble_eq_true rfl)⟩) hS hA hP hD [0, 1] [] rfl rfl (by decide) (by decide) (fun r u H locs hw hP hD hS => ?_)
  obtain ⟨rfl, rfl⟩ := hw
  have hP : va_P D vwCl [(m0, .inr (20, [.int 0, .int 0, .ref m1, .ref m2, .ref m3, .int 0, .ref m4, .ref m5, .ref m6, .int 0, .ref m7, .ref m8, .ref m9, .int 0, .ref m10, .int 0, .ref m11, .ref m12, .ref m13, .int 0, .ref m14, .int 0, .int 0, .int 0, .ref m15, .ref m16])), (m2, .inr (4, [.int 0, .ref td, .int 0]))] H := hP
  have hD : va_D A [(m0, .inr (20, [.int 0, .int 0, .ref m1, .ref m2, .ref m3, .int 0, .ref m4, .ref m5, .ref m6, .int 0, .ref m7, .ref m8, .ref m9, .int 0, .ref m10, .int 0, .ref m11, .ref m12, .ref m13, .int 0, .ref m14, .int 0, .int 0, .int 0, .ref m15, .ref m16])), (m2, .inr (4, [.int 0, .ref td, .int 0]))] := hD
  refine W.widen (k := 0) (n := 0) (Nat.le_of_ble_eq_true rfl) (Nat.le_of_ble_eq_true rfl) ?_
  refine lv_iconst (v := 1) hx hb dX16_instances_11 (by decide) ?_
  refine wq_i (wc := [(m0, .inr (20, [.int 0, .int 0, .ref m1, .ref m2, .ref m3, .int 0, .ref m4, .ref m5, .ref m6, .int 0, .ref m7, .ref m8, .ref m9, .int 0, .ref m10, .int 0, .ref m11, .ref m12, .ref m13, .int 0, .ref m14, .int 0, .int 0, .int 0, .ref m15, .ref m16]))]) (wr := [(m2, .inr (4, [.int 0, .ref td, .int 0]))]) (va_runV (As := [.int 1, .int 1]) (rest := []) ⟨hx, hb, hml, hown, hts⟩ (k_X16_fails_1_1 l D ty td mi H.size m0 m1 m2 m3 m4 m5 m6 m7 m8 m9 m10 m11 m12 m13 m14 m15 m16 0) (cwV 2 hts gv_k_X16_instances_1 rfl rfl rfl (by decide +kernel) ⟨(Nat.le_of_ble_eq_true rfl), (Nat.le_of_ble_eq_true rfl)⟩) (wq_preV hP hD hK hE hS hA [0] rfl (by decide) 0 20 rfl rfl) rfl rfl hl.1 rfl (lv_room (Nat.le_of_ble_eq_true rfl)) dX16_instances_12 ⟨(Nat.le_of_ble_eq_true rfl), (Nat.le_of_ble_eq_true rfl)⟩) hS hA hP hD [0] [1] rfl rfl (by decide) (by decide) (fun r u H locs hw hP hD hS => ?_)
  obtain ⟨rfl, rfl⟩ := hw
  have hP : va_P D vwCl [(m2, .inr (4, [.int 0, .ref td, .int 0])), (m0, .inr (20, [.int 1, .int 0, .ref m1, .ref m2, .ref m3, .int 0, .ref m4, .ref m5, .ref m6, .int 0, .ref m7, .ref m8, .ref m9, .int 0, .ref m10, .int 0, .ref m11, .ref m12, .ref m13, .int 0, .ref m14, .int 0, .int 0, .int 0, .ref m15, .ref m16]))] H := hP
  have hD : va_D A [(m2, .inr (4, [.int 0, .ref td, .int 0])), (m0, .inr (20, [.int 1, .int 0, .ref m1, .ref m2, .ref m3, .int 0, .ref m4, .ref m5, .ref m6, .int 0, .ref m7, .ref m8, .ref m9, .int 0, .ref m10, .int 0, .ref m11, .ref m12, .ref m13, .int 0, .ref m14, .int 0, .int 0, .int 0, .ref m15, .ref m16]))] := hD
  refine W.widen (k := 0) (n := 0) (Nat.le_of_ble_eq_true rfl) (Nat.le_of_ble_eq_true rfl) ?_
  refine lv_if_eq (tgt := 20) hx hb dX16_instances_15 (by decide) (fun c0 => absurd c0 (by decide)) (fun _ => ?_)
  refine lv_iconst (v := 0) hx hb dX16_instances_18 (by decide) ?_
  have hP9 := hP.sub (ws' := [(m0, .inr (20, [.int 1, .int 0, .ref m1, .ref m2, .ref m3, .int 0, .ref m4, .ref m5, .ref m6, .int 0, .ref m7, .ref m8, .ref m9, .int 0, .ref m10, .int 0, .ref m11, .ref m12, .ref m13, .int 0, .ref m14, .int 0, .int 0, .int 0, .ref m15, .ref m16]))]) [1] rfl
  have hD9 := hD.sub (ws' := [(m0, .inr (20, [.int 1, .int 0, .ref m1, .ref m2, .ref m3, .int 0, .ref m4, .ref m5, .ref m6, .int 0, .ref m7, .ref m8, .ref m9, .int 0, .ref m10, .int 0, .ref m11, .ref m12, .ref m13, .int 0, .ref m14, .int 0, .int 0, .int 0, .ref m15, .ref m16]))]) [1] (by decide) rfl
  refine W.widen (k := 0) (n := 0) (Nat.le_of_ble_eq_true rfl) (Nat.le_of_ble_eq_true rfl) ?_
  exact W.iret (v := 0) hx hb hr (fun t ht hW => ⟨⟨0, [(m0, .inr (20, [.int 1, .int 0, .ref m1, .ref m2, .ref m3, .int 0, .ref m4, .ref m5, .ref m6, .int 0, .ref m7, .ref m8, .ref m9, .int 0, .ref m10, .int 0, .ref m11, .ref m12, .ref m13, .int 0, .ref m14, .int 0, .int 0, .int 0, .ref m15, .ref m16]))], rfl, ⟨rfl, rfl⟩, wq_B.of ht hP9 hD9⟩, hS.F ht⟩) hS.2.2 dX16_instances_19
def vs_k_X16_addExternal : List Cond := .code yX16_addExternal cX16_addExternal 4 (some .int) :: ([.fieldLink RX16 65 "AnswerFoldModel" "thrown" "I", .methodLink RX16 106 yX16_noPredicate, .instanceMethod yX16_noPredicate, .selects RX16 yX16_noPredicate yX16_noPredicate, .initialized RX16, .methodLink RX16 87 yX16_fails, .instanceMethod yX16_fails, .selects RX16 yX16_fails yX16_fails] ++ (u_ws RX16 TX16 26 ++ (vs_k_X16_noPredicate ++ (vs_k_X16_fails_1_1))))
theorem iv_k_X16_addExternal_X16 : ∀ w ∈ u_ws RX16 TX16 26, w ∈ vs_k_X16_addExternal := (fun _ h => List.mem_cons_of_mem _ (List.mem_append_right _ (List.mem_append_left _ h)))
set_option maxRecDepth 20000 in
theorem gv_k_X16_addExternal_0 : GoodIn vs_k_X16_addExternal (wsV RX16 106 RX16 yX16_noPredicate vs_k_X16_noPredicate) := goodIn_app (goodIn_sub (by decide +kernel) (by decide +kernel)) (goodIn_sub (fun _ h => List.mem_cons_of_mem _ (List.mem_append_right _ (List.mem_append_right _ (List.mem_append_left _ h)))) (by decide +kernel))
set_option maxRecDepth 20000 in
theorem gv_k_X16_addExternal_1 : GoodIn vs_k_X16_addExternal (wsV RX16 87 RX16 yX16_fails vs_k_X16_fails_1_1) := goodIn_app (goodIn_sub (by decide +kernel) (by decide +kernel)) (goodIn_sub (fun _ h => List.mem_cons_of_mem _ (List.mem_append_right _ (List.mem_append_right _ (List.mem_append_right _ (h))))) (by decide +kernel))
set_option maxHeartbeats 4000000 in
set_option maxRecDepth 100000 in
theorem k_X16_addExternal (l : Launch) (D : va_G) (ty : Nat → ClassId) (td mi sz : Nat) (m0 : Nat) (m1 : Nat) (m2 : Nat) (m3 : Nat) (m4 : Nat) (m5 : Nat) (m6 : Nat) (m7 : Nat) (m8 : Nat) (m9 : Nat) (m10 : Nat) (m11 : Nat) (m12 : Nat) (m13 : Nat) (m14 : Nat) (m15 : Nat) (m16 : Nat) (k1 : Int32) (k2 : Int32) (k3 : Int32) : Met l yX16_addExternal vs_k_X16_addExternal { frames := 2, cells := 0, slots := 0, locals := 43 } (va_Pc [.ref m0, .int k1, .int k2, .int k3] (wq_P D ty td mi [(m0, .inr (20, [.int 0, .int 0, .ref m1, .ref m2, .ref m3, .int 0, .ref m4, .ref m5, .ref m6, .int 0, .ref m7, .ref m8, .ref m9, .int 0, .ref m10, .int 0, .ref m11, .ref m12, .ref m13, .int 0, .ref m14, .int 0, .int 0, .int 0, .ref m15, .ref m16]))] sz)) (va_Qi (fun (r : Int32) (u : va_W) => (r = 0 ∧ (u = [(m0, .inr (20, [.int 1, .int 0, .ref m1, .ref m2, .ref m3, .int 0, .ref m4, .ref m5, .ref m6, .int 0, .ref m7, .ref m8, .ref m9, .int 0, .ref m10, .int 0, .ref m11, .ref m12, .ref m13, .int 0, .ref m14, .int 0, .int 0, .int 0, .ref m15, .ref m16]))]))) (wq_B D (va_A [(m0, .inr (20, [.int 0, .int 0, .ref m1, .ref m2, .ref m3, .int 0, .ref m4, .ref m5, .ref m6, .int 0, .ref m7, .ref m8, .ref m9, .int 0, .ref m10, .int 0, .ref m11, .ref m12, .ref m13, .int 0, .ref m14, .int 0, .int 0, .int 0, .ref m15, .ref m16]))] sz)) (va_A [(m0, .inr (20, [.int 0, .int 0, .ref m1, .ref m2, .ref m3, .int 0, .ref m4, .ref m5, .ref m6, .int 0, .ref m7, .ref m8, .ref m9, .int 0, .ref m10, .int 0, .ref m11, .ref m12, .ref m13, .int 0, .ref m14, .int 0, .int 0, .int 0, .ref m15, .ref m16]))] sz)) 0 0 (va_A [(m0, .inr (20, [.int 0, .int 0, .ref m1, .ref m2, .ref m3, .int 0, .ref m4, .ref m5, .ref m6, .int 0, .ref m7, .ref m8, .ref m9, .int 0, .ref m10, .int 0, .ref m11, .ref m12, .ref m13, .int 0, .ref m14, .int 0, .int 0, .int 0, .ref m15, .ref m16]))] sz) := by
  refine Met.ofW (cc := cX16_addExternal) (maxL := 4) (ret := (some .int)) (by decide) rfl ?_
  intro p e s m args below meth c s₁ B hml hv
  obtain ⟨rfl, hsz, hP, hK, hD0, hE⟩ := hv
  have hx := B.exec
  have hb := B.bytes
  have hr := B.returns
  have hts := atoms_spec (ws := vs_k_X16_addExternal) B.pre
  have hown : s.vm.findClass RX16 = some m.cls := findClass_of_methodNamed B.named
  have hlocks := B.notSynchronized
  subst hsz
  have hD := hD0.self (sz := s.heap.size)
  generalize hAe : va_A [(m0, .inr (20, [.int 0, .int 0, .ref m1, .ref m2, .ref m3, .int 0, .ref m4, .ref m5, .ref m6, .int 0, .ref m7, .ref m8, .ref m9, .int 0, .ref m10, .int 0, .ref m11, .ref m12, .ref m13, .int 0, .ref m14, .int 0, .int 0, .int 0, .ref m15, .ref m16]))] s.heap.size = A at hD hE ⊢
  have hA : ∀ q : Nat, s.heap.size ≤ q → A q := fun q h => by rw [← hAe]; exact Or.inr h
  have hS : va_S A s.heap s.heap [] := va_S.rf
  have hP : va_P D vwCl [(m0, .inr (20, [.int 0, .int 0, .ref m1, .ref m2, .ref m3, .int 0, .ref m4, .ref m5, .ref m6, .int 0, .ref m7, .ref m8, .ref m9, .int 0, .ref m10, .int 0, .ref m11, .ref m12, .ref m13, .int 0, .ref m14, .int 0, .int 0, .int 0, .ref m15, .ref m16]))] s.heap := hP
  have hl := lv_entry ([.ref m0, .int k1, .int k2, .int k3]) (n := 4) (Nat.le_of_ble_eq_true rfl)
  rw [lg_entry_eq]
  generalize (lg_sl ([.ref m0, .int k1, .int k2, .int k3]) ++ List.replicate (4 - (lg_sl ([.ref m0, .int k1, .int k2, .int k3])).length) Slot.unset).toArray = ls at hl ⊢
  have hl : lv_has ls 4 [(0, .ref m0), (1, .int k1), (2, .int k2), (3, .int k3)] := hl
  refine lv_aload_n hx hb dX16_addExternal_0 rfl (lv_at hl 0 rfl) ?_
  refine lv_iconst (v := 0) hx hb dX16_addExternal_1 (by decide) ?_
  refine va_put (D := D) (ci := 20) (v := .int 0) (ty := tyX16 0) (C := RX16) (T := TX16) (N := 26) hx hb hts iv_k_X16_addExternal_X16 tyX16 tyX16_ok nmX16 hown hK hP hD hS 0 rfl rfl 0 (by decide) (hts (.fieldLink RX16 65 "AnswerFoldModel" "thrown" "I") (by decide +kernel)) (fun _ h9 => h9) rfl (by decide +kernel) rfl rfl (Nat.le_of_ble_eq_true rfl) dX16_addExternal_2 (fun H locs hP hD hS => ?_)
  have hP : va_P D vwCl [(m0, .inr (20, [.int 0, .int 0, .ref m1, .ref m2, .ref m3, .int 0, .ref m4, .ref m5, .ref m6, .int 0, .ref m7, .ref m8, .ref m9, .int 0, .ref m10, .int 0, .ref m11, .ref m12, .ref m13, .int 0, .ref m14, .int 0, .int 0, .int 0, .ref m15, .ref m16]))] H := hP
  have hD : va_D A [(m0, .inr (20, [.int 0, .int 0, .ref m1, .ref m2, .ref m3, .int 0, .ref m4, .ref m5, .ref m6, .int 0, .ref m7, .ref m8, .ref m9, .int 0, .ref m10, .int 0, .ref m11, .ref m12, .ref m13, .int 0, .ref m14, .int 0, .int 0, .int 0, .ref m15, .ref m16]))] := hD
  refine lv_aload_n hx hb dX16_addExternal_5 rfl (lv_at hl 0 rfl) ?_
  refine lv_aload_n hx hb dX16_addExternal_6 rfl (lv_at hl 0 rfl) ?_
  refine lv_iload_n hx hb dX16_addExternal_7 rfl (lv_at hl 1 rfl) ?_
  refine wq_i (wc := [(m0, .inr (20, [.int 0, .int 0, .ref m1, .ref m2, .ref m3, .int 0, .ref m4, .ref m5, .ref m6, .int 0, .ref m7, .ref m8, .ref m9, .int 0, .ref m10, .int 0, .ref m11, .ref m12, .ref m13, .int 0, .ref m14, .int 0, .int 0, .int 0, .ref m15, .ref m16]))]) (wr := []) (va_runV (As := [.int k1]) (rest := [.ref m0]) ⟨hx, hb, hml, hown, hts⟩ (k_X16_noPredicate l D ty td mi H.size m0 m1 m2 m3 m4 m5 m6 m7 m8 m9 m10 m11 m12 m13 m14 m15 m16 k1) (cwV 1 hts gv_k_X16_addExternal_0 rfl rfl rfl (by decide +kernel) ⟨(Nat.le_of_ble_eq_true rfl), (Nat.le_of_ble_eq_true rfl)⟩) (wq_preV hP hD hK hE hS hA [0] rfl (by decide) 0 20 rfl rfl) rfl rfl hl.1 rfl (lv_room (Nat.le_of_ble_eq_true rfl)) dX16_addExternal_8 ⟨(Nat.le_of_ble_eq_true rfl), (Nat.le_of_ble_eq_true rfl)⟩) hS hA hP hD [0] [] rfl rfl (by decide) (by decide) (fun r u H locs hw hP hD hS => ?_)
  obtain ⟨rfl, rfl⟩ := hw
  have hP : va_P D vwCl [(m0, .inr (20, [.int 0, .int 0, .ref m1, .ref m2, .ref m3, .int 0, .ref m4, .ref m5, .ref m6, .int 0, .ref m7, .ref m8, .ref m9, .int 0, .ref m10, .int 0, .ref m11, .ref m12, .ref m13, .int 0, .ref m14, .int 0, .int 0, .int 0, .ref m15, .ref m16]))] H := hP
  have hD : va_D A [(m0, .inr (20, [.int 0, .int 0, .ref m1, .ref m2, .ref m3, .int 0, .ref m4, .ref m5, .ref m6, .int 0, .ref m7, .ref m8, .ref m9, .int 0, .ref m10, .int 0, .ref m11, .ref m12, .ref m13, .int 0, .ref m14, .int 0, .int 0, .int 0, .ref m15, .ref m16]))] := hD
  refine W.widen (k := 0) (n := 0) (Nat.le_of_ble_eq_true rfl) (Nat.le_of_ble_eq_true rfl) ?_
  refine lv_iconst (v := 1) hx hb dX16_addExternal_11 (by decide) ?_
  refine wq_i (wc := [(m0, .inr (20, [.int 0, .int 0, .ref m1, .ref m2, .ref m3, .int 0, .ref m4, .ref m5, .ref m6, .int 0, .ref m7, .ref m8, .ref m9, .int 0, .ref m10, .int 0, .ref m11, .ref m12, .ref m13, .int 0, .ref m14, .int 0, .int 0, .int 0, .ref m15, .ref m16]))]) (wr := []) (va_runV (As := [.int 1, .int 1]) (rest := []) ⟨hx, hb, hml, hown, hts⟩ (k_X16_fails_1_1 l D ty td mi H.size m0 m1 m2 m3 m4 m5 m6 m7 m8 m9 m10 m11 m12 m13 m14 m15 m16 0) (cwV 2 hts gv_k_X16_addExternal_1 rfl rfl rfl (by decide +kernel) ⟨(Nat.le_of_ble_eq_true rfl), (Nat.le_of_ble_eq_true rfl)⟩) (wq_preV hP hD hK hE hS hA [0] rfl (by decide) 0 20 rfl rfl) rfl rfl hl.1 rfl (lv_room (Nat.le_of_ble_eq_true rfl)) dX16_addExternal_12 ⟨(Nat.le_of_ble_eq_true rfl), (Nat.le_of_ble_eq_true rfl)⟩) hS hA hP hD [0] [] rfl rfl (by decide) (by decide) (fun r u H locs hw hP hD hS => ?_)
  obtain ⟨rfl, rfl⟩ := hw
  have hP : va_P D vwCl [(m0, .inr (20, [.int 1, .int 0, .ref m1, .ref m2, .ref m3, .int 0, .ref m4, .ref m5, .ref m6, .int 0, .ref m7, .ref m8, .ref m9, .int 0, .ref m10, .int 0, .ref m11, .ref m12, .ref m13, .int 0, .ref m14, .int 0, .int 0, .int 0, .ref m15, .ref m16]))] H := hP
  have hD : va_D A [(m0, .inr (20, [.int 1, .int 0, .ref m1, .ref m2, .ref m3, .int 0, .ref m4, .ref m5, .ref m6, .int 0, .ref m7, .ref m8, .ref m9, .int 0, .ref m10, .int 0, .ref m11, .ref m12, .ref m13, .int 0, .ref m14, .int 0, .int 0, .int 0, .ref m15, .ref m16]))] := hD
  refine W.widen (k := 0) (n := 0) (Nat.le_of_ble_eq_true rfl) (Nat.le_of_ble_eq_true rfl) ?_
  refine lv_if_ne (tgt := 70) hx hb dX16_addExternal_15 (by decide) (fun _ => ?_) (fun c0 => absurd c0 (by decide))
  refine lv_iconst (v := 0) hx hb dX16_addExternal_70 (by decide) ?_
  have hP9 := hP.sub (ws' := [(m0, .inr (20, [.int 1, .int 0, .ref m1, .ref m2, .ref m3, .int 0, .ref m4, .ref m5, .ref m6, .int 0, .ref m7, .ref m8, .ref m9, .int 0, .ref m10, .int 0, .ref m11, .ref m12, .ref m13, .int 0, .ref m14, .int 0, .int 0, .int 0, .ref m15, .ref m16]))]) [0] rfl
  have hD9 := hD.sub (ws' := [(m0, .inr (20, [.int 1, .int 0, .ref m1, .ref m2, .ref m3, .int 0, .ref m4, .ref m5, .ref m6, .int 0, .ref m7, .ref m8, .ref m9, .int 0, .ref m10, .int 0, .ref m11, .ref m12, .ref m13, .int 0, .ref m14, .int 0, .int 0, .int 0, .ref m15, .ref m16]))]) [0] (by decide) rfl
  refine W.widen (k := 0) (n := 0) (Nat.le_of_ble_eq_true rfl) (Nat.le_of_ble_eq_true rfl) ?_
  exact W.iret (v := 0) hx hb hr (fun t ht hW => ⟨⟨0, [(m0, .inr (20, [.int 1, .int 0, .ref m1, .ref m2, .ref m3, .int 0, .ref m4, .ref m5, .ref m6, .int 0, .ref m7, .ref m8, .ref m9, .int 0, .ref m10, .int 0, .ref m11, .ref m12, .ref m13, .int 0, .ref m14, .int 0, .int 0, .int 0, .ref m15, .ref m16]))], rfl, ⟨rfl, rfl⟩, wq_B.of ht hP9 hD9⟩, hS.F ht⟩) hS.2.2 dX16_addExternal_71
def vs_k_X16_setExternal : List Cond := .code yX16_setExternal cX16_setExternal 4 (some .char) :: ([.fieldLink RX16 65 "AnswerFoldModel" "thrown" "I", .fieldLink RX16 182 "AnswerFoldModel" "externals" "I", .methodLink RX16 72 yX16_in, .static yX16_in, .initialized RX16, .methodLink RX16 87 yX16_fails, .instanceMethod yX16_fails, .selects RX16 yX16_fails yX16_fails] ++ (u_ws RX16 TX16 26 ++ (vs_k_X16_in_none ++ (vs_k_X16_fails_1_1))))
theorem iv_k_X16_setExternal_X16 : ∀ w ∈ u_ws RX16 TX16 26, w ∈ vs_k_X16_setExternal := (fun _ h => List.mem_cons_of_mem _ (List.mem_append_right _ (List.mem_append_left _ h)))
set_option maxRecDepth 20000 in
theorem gv_k_X16_setExternal_0 : GoodIn vs_k_X16_setExternal (va_wsS RX16 72 yX16_in vs_k_X16_in_none) := goodIn_app (goodIn_sub (by decide +kernel) (by decide +kernel)) (goodIn_sub (fun _ h => List.mem_cons_of_mem _ (List.mem_append_right _ (List.mem_append_right _ (List.mem_append_left _ h)))) (by decide +kernel))
set_option maxRecDepth 20000 in
theorem gv_k_X16_setExternal_1 : GoodIn vs_k_X16_setExternal (wsV RX16 87 RX16 yX16_fails vs_k_X16_fails_1_1) := goodIn_app (goodIn_sub (by decide +kernel) (by decide +kernel)) (goodIn_sub (fun _ h => List.mem_cons_of_mem _ (List.mem_append_right _ (List.mem_append_right _ (List.mem_append_right _ (h))))) (by decide +kernel))
set_option maxHeartbeats 4000000 in
set_option maxRecDepth 100000 in
theorem k_X16_setExternal (l : Launch) (D : va_G) (ty : Nat → ClassId) (td mi sz : Nat) (m0 : Nat) (m1 : Nat) (m2 : Nat) (m3 : Nat) (m4 : Nat) (m5 : Nat) (m6 : Nat) (m7 : Nat) (m8 : Nat) (m9 : Nat) (m10 : Nat) (m11 : Nat) (m12 : Nat) (m13 : Nat) (m14 : Nat) (m15 : Nat) (m16 : Nat) (k1 : Int32) (k2 : Int32) : Met l yX16_setExternal vs_k_X16_setExternal { frames := 1, cells := 0, slots := 0, locals := 22 } (va_Pc [.ref m0, .int k1, .int k2] (wq_P D ty td mi [(m0, .inr (20, [.int 0, .int 0, .ref m1, .ref m2, .ref m3, .int 0, .ref m4, .ref m5, .ref m6, .int 0, .ref m7, .ref m8, .ref m9, .int 0, .ref m10, .int 0, .ref m11, .ref m12, .ref m13, .int 0, .ref m14, .int 0, .int 0, .int 0, .ref m15, .ref m16]))] sz)) (va_Qi (fun (r : Int32) (u : va_W) => (r = 0 ∧ (u = [(m0, .inr (20, [.int 1, .int 0, .ref m1, .ref m2, .ref m3, .int 0, .ref m4, .ref m5, .ref m6, .int 0, .ref m7, .ref m8, .ref m9, .int 0, .ref m10, .int 0, .ref m11, .ref m12, .ref m13, .int 0, .ref m14, .int 0, .int 0, .int 0, .ref m15, .ref m16]))]))) (wq_B D (va_A [(m0, .inr (20, [.int 0, .int 0, .ref m1, .ref m2, .ref m3, .int 0, .ref m4, .ref m5, .ref m6, .int 0, .ref m7, .ref m8, .ref m9, .int 0, .ref m10, .int 0, .ref m11, .ref m12, .ref m13, .int 0, .ref m14, .int 0, .int 0, .int 0, .ref m15, .ref m16]))] sz)) (va_A [(m0, .inr (20, [.int 0, .int 0, .ref m1, .ref m2, .ref m3, .int 0, .ref m4, .ref m5, .ref m6, .int 0, .ref m7, .ref m8, .ref m9, .int 0, .ref m10, .int 0, .ref m11, .ref m12, .ref m13, .int 0, .ref m14, .int 0, .int 0, .int 0, .ref m15, .ref m16]))] sz)) 0 0 (va_A [(m0, .inr (20, [.int 0, .int 0, .ref m1, .ref m2, .ref m3, .int 0, .ref m4, .ref m5, .ref m6, .int 0, .ref m7, .ref m8, .ref m9, .int 0, .ref m10, .int 0, .ref m11, .ref m12, .ref m13, .int 0, .ref m14, .int 0, .int 0, .int 0, .ref m15, .ref m16]))] sz) := by
  refine Met.ofW (cc := cX16_setExternal) (maxL := 4) (ret := (some .char)) (by decide) rfl ?_
  intro p e s m args below meth c s₁ B hml hv
  obtain ⟨rfl, hsz, hP, hK, hD0, hE⟩ := hv
  have hx := B.exec
  have hb := B.bytes
  have hr := B.returns
  have hts := atoms_spec (ws := vs_k_X16_setExternal) B.pre
  have hown : s.vm.findClass RX16 = some m.cls := findClass_of_methodNamed B.named
  have hlocks := B.notSynchronized
  subst hsz
  have hD := hD0.self (sz := s.heap.size)
  generalize hAe : va_A [(m0, .inr (20, [.int 0, .int 0, .ref m1, .ref m2, .ref m3, .int 0, .ref m4, .ref m5, .ref m6, .int 0, .ref m7, .ref m8, .ref m9, .int 0, .ref m10, .int 0, .ref m11, .ref m12, .ref m13, .int 0, .ref m14, .int 0, .int 0, .int 0, .ref m15, .ref m16]))] s.heap.size = A at hD hE ⊢
  have hA : ∀ q : Nat, s.heap.size ≤ q → A q := fun q h => by rw [← hAe]; exact Or.inr h
  have hS : va_S A s.heap s.heap [] := va_S.rf
  have hP : va_P D vwCl [(m0, .inr (20, [.int 0, .int 0, .ref m1, .ref m2, .ref m3, .int 0, .ref m4, .ref m5, .ref m6, .int 0, .ref m7, .ref m8, .ref m9, .int 0, .ref m10, .int 0, .ref m11, .ref m12, .ref m13, .int 0, .ref m14, .int 0, .int 0, .int 0, .ref m15, .ref m16]))] s.heap := hP
  have hl := lv_entry ([.ref m0, .int k1, .int k2]) (n := 4) (Nat.le_of_ble_eq_true rfl)
  rw [lg_entry_eq]
  generalize (lg_sl ([.ref m0, .int k1, .int k2]) ++ List.replicate (4 - (lg_sl ([.ref m0, .int k1, .int k2])).length) Slot.unset).toArray = ls at hl ⊢
  have hl : lv_has ls 4 [(0, .ref m0), (1, .int k1), (2, .int k2)] := hl
  refine lv_aload_n hx hb dX16_setExternal_0 rfl (lv_at hl 0 rfl) ?_
  refine lv_iconst (v := 0) hx hb dX16_setExternal_1 (by decide) ?_
  refine va_put (D := D) (ci := 20) (v := .int 0) (ty := tyX16 0) (C := RX16) (T := TX16) (N := 26) hx hb hts iv_k_X16_setExternal_X16 tyX16 tyX16_ok nmX16 hown hK hP hD hS 0 rfl rfl 0 (by decide) (hts (.fieldLink RX16 65 "AnswerFoldModel" "thrown" "I") (by decide +kernel)) (fun _ h9 => h9) rfl (by decide +kernel) rfl rfl (Nat.le_of_ble_eq_true rfl) dX16_setExternal_2 (fun H locs hP hD hS => ?_)
  have hP : va_P D vwCl [(m0, .inr (20, [.int 0, .int 0, .ref m1, .ref m2, .ref m3, .int 0, .ref m4, .ref m5, .ref m6, .int 0, .ref m7, .ref m8, .ref m9, .int 0, .ref m10, .int 0, .ref m11, .ref m12, .ref m13, .int 0, .ref m14, .int 0, .int 0, .int 0, .ref m15, .ref m16]))] H := hP
  have hD : va_D A [(m0, .inr (20, [.int 0, .int 0, .ref m1, .ref m2, .ref m3, .int 0, .ref m4, .ref m5, .ref m6, .int 0, .ref m7, .ref m8, .ref m9, .int 0, .ref m10, .int 0, .ref m11, .ref m12, .ref m13, .int 0, .ref m14, .int 0, .int 0, .int 0, .ref m15, .ref m16]))] := hD
  refine lv_aload_n hx hb dX16_setExternal_5 rfl (lv_at hl 0 rfl) ?_
  refine lv_iload_n hx hb dX16_setExternal_6 rfl (lv_at hl 1 rfl) ?_
  refine lv_iconst (v := 0) hx hb dX16_setExternal_7 (by decide) ?_
  refine lv_aload_n hx hb dX16_setExternal_8 rfl (lv_at hl 0 rfl) ?_
  refine va_get (D := D) (ci := 20) (v := .int 0) (C := RX16) (T := TX16) (N := 26) hx hb hts iv_k_X16_setExternal_X16 hown hK hP 0 rfl rfl 5 (by decide) (hts (.fieldLink RX16 182 "AnswerFoldModel" "externals" "I") (by decide +kernel)) (fun _ h9 => h9) rfl dX16_setExternal_9 ?_
  refine lv_iconst (v := 1) hx hb dX16_setExternal_12 (by decide) ?_
  refine lv_isub hx hb dX16_setExternal_13 ?_
  refine lv_topi (nm_r (e' := (-1)) (by decide) ?_)
  refine wq_i (wc := []) (wr := [(m0, .inr (20, [.int 0, .int 0, .ref m1, .ref m2, .ref m3, .int 0, .ref m4, .ref m5, .ref m6, .int 0, .ref m7, .ref m8, .ref m9, .int 0, .ref m10, .int 0, .ref m11, .ref m12, .ref m13, .int 0, .ref m14, .int 0, .int 0, .int 0, .ref m15, .ref m16]))]) (va_runS (As := [.int k1, .int 0, .int (-1)]) (rest := [.ref m0]) ⟨hx, hb, hml, hown, hts⟩ (k_X16_in_none l D ty td mi H.size k1) (va_cwS 3 hts gv_k_X16_setExternal_0 rfl rfl rfl (by decide +kernel) ⟨(Nat.le_of_ble_eq_true rfl), (Nat.le_of_ble_eq_true rfl)⟩) (wq_preS hP hD hK hE hS hA [] rfl (by decide)) rfl rfl hl.1 rfl (lv_room (Nat.le_of_ble_eq_true rfl)) dX16_setExternal_14 ⟨(Nat.le_of_ble_eq_true rfl), (Nat.le_of_ble_eq_true rfl)⟩) hS hA hP hD [] [0] rfl rfl (by decide) (by decide) (fun r u H locs hw hP hD hS => ?_)
  obtain ⟨rfl, rfl⟩ := hw
  have hP : va_P D vwCl [(m0, .inr (20, [.int 0, .int 0, .ref m1, .ref m2, .ref m3, .int 0, .ref m4, .ref m5, .ref m6, .int 0, .ref m7, .ref m8, .ref m9, .int 0, .ref m10, .int 0, .ref m11, .ref m12, .ref m13, .int 0, .ref m14, .int 0, .int 0, .int 0, .ref m15, .ref m16]))] H := hP
  have hD : va_D A [(m0, .inr (20, [.int 0, .int 0, .ref m1, .ref m2, .ref m3, .int 0, .ref m4, .ref m5, .ref m6, .int 0, .ref m7, .ref m8, .ref m9, .int 0, .ref m10, .int 0, .ref m11, .ref m12, .ref m13, .int 0, .ref m14, .int 0, .int 0, .int 0, .ref m15, .ref m16]))] := hD
  refine W.widen (k := 0) (n := 0) (Nat.le_of_ble_eq_true rfl) (Nat.le_of_ble_eq_true rfl) ?_
  refine lv_if_ne (tgt := 24) hx hb dX16_setExternal_17 (by decide) (fun c0 => absurd (by decide) c0) (fun _ => ?_)
  refine lv_iconst (v := 1) hx hb dX16_setExternal_20 (by decide) ?_
  refine lv_goto (tgt := 25) hx hb dX16_setExternal_21 (by decide) ?_
  refine lv_iconst (v := 1) hx hb dX16_setExternal_25 (by decide) ?_
  refine wq_i (wc := [(m0, .inr (20, [.int 0, .int 0, .ref m1, .ref m2, .ref m3, .int 0, .ref m4, .ref m5, .ref m6, .int 0, .ref m7, .ref m8, .ref m9, .int 0, .ref m10, .int 0, .ref m11, .ref m12, .ref m13, .int 0, .ref m14, .int 0, .int 0, .int 0, .ref m15, .ref m16]))]) (wr := []) (va_runV (As := [.int 1, .int 1]) (rest := []) ⟨hx, hb, hml, hown, hts⟩ (k_X16_fails_1_1 l D ty td mi H.size m0 m1 m2 m3 m4 m5 m6 m7 m8 m9 m10 m11 m12 m13 m14 m15 m16 0) (cwV 2 hts gv_k_X16_setExternal_1 rfl rfl rfl (by decide +kernel) ⟨(Nat.le_of_ble_eq_true rfl), (Nat.le_of_ble_eq_true rfl)⟩) (wq_preV hP hD hK hE hS hA [0] rfl (by decide) 0 20 rfl rfl) rfl rfl hl.1 rfl (lv_room (Nat.le_of_ble_eq_true rfl)) dX16_setExternal_26 ⟨(Nat.le_of_ble_eq_true rfl), (Nat.le_of_ble_eq_true rfl)⟩) hS hA hP hD [0] [] rfl rfl (by decide) (by decide) (fun r u H locs hw hP hD hS => ?_)
  obtain ⟨rfl, rfl⟩ := hw
  have hP : va_P D vwCl [(m0, .inr (20, [.int 1, .int 0, .ref m1, .ref m2, .ref m3, .int 0, .ref m4, .ref m5, .ref m6, .int 0, .ref m7, .ref m8, .ref m9, .int 0, .ref m10, .int 0, .ref m11, .ref m12, .ref m13, .int 0, .ref m14, .int 0, .int 0, .int 0, .ref m15, .ref m16]))] H := hP
  have hD : va_D A [(m0, .inr (20, [.int 1, .int 0, .ref m1, .ref m2, .ref m3, .int 0, .ref m4, .ref m5, .ref m6, .int 0, .ref m7, .ref m8, .ref m9, .int 0, .ref m10, .int 0, .ref m11, .ref m12, .ref m13, .int 0, .ref m14, .int 0, .int 0, .int 0, .ref m15, .ref m16]))] := hD
  refine W.widen (k := 0) (n := 0) (Nat.le_of_ble_eq_true rfl) (Nat.le_of_ble_eq_true rfl) ?_
  refine lv_if_ne (tgt := 93) hx hb dX16_setExternal_29 (by decide) (fun _ => ?_) (fun c0 => absurd c0 (by decide))
  refine lv_iconst (v := 0) hx hb dX16_setExternal_93 (by decide) ?_
  have hP9 := hP.sub (ws' := [(m0, .inr (20, [.int 1, .int 0, .ref m1, .ref m2, .ref m3, .int 0, .ref m4, .ref m5, .ref m6, .int 0, .ref m7, .ref m8, .ref m9, .int 0, .ref m10, .int 0, .ref m11, .ref m12, .ref m13, .int 0, .ref m14, .int 0, .int 0, .int 0, .ref m15, .ref m16]))]) [0] rfl
  have hD9 := hD.sub (ws' := [(m0, .inr (20, [.int 1, .int 0, .ref m1, .ref m2, .ref m3, .int 0, .ref m4, .ref m5, .ref m6, .int 0, .ref m7, .ref m8, .ref m9, .int 0, .ref m10, .int 0, .ref m11, .ref m12, .ref m13, .int 0, .ref m14, .int 0, .int 0, .int 0, .ref m15, .ref m16]))]) [0] (by decide) rfl
  refine W.widen (k := 0) (n := 0) (Nat.le_of_ble_eq_true rfl) (Nat.le_of_ble_eq_true rfl) ?_
  exact W.zret (v := 0) hx hb hr rfl (fun t ht hW => ⟨⟨0, [(m0, .inr (20, [.int 1, .int 0, .ref m1, .ref m2, .ref m3, .int 0, .ref m4, .ref m5, .ref m6, .int 0, .ref m7, .ref m8, .ref m9, .int 0, .ref m10, .int 0, .ref m11, .ref m12, .ref m13, .int 0, .ref m14, .int 0, .int 0, .int 0, .ref m15, .ref m16]))], rfl, ⟨rfl, rfl⟩, wq_B.of ht hP9 hD9⟩, hS.F ht⟩) hS.2.2 dX16_setExternal_94
def vs_k_X16_assume : List Cond := .code yX16_assume cX16_assume 5 (some .int) :: ([.fieldLink RX16 65 "AnswerFoldModel" "thrown" "I", .methodLink RX16 106 yX16_noPredicate, .instanceMethod yX16_noPredicate, .selects RX16 yX16_noPredicate yX16_noPredicate, .initialized RX16, .methodLink RX16 87 yX16_fails, .instanceMethod yX16_fails, .selects RX16 yX16_fails yX16_fails] ++ (u_ws RX16 TX16 26 ++ (vs_k_X16_noPredicate ++ (vs_k_X16_fails_1_1))))
theorem iv_k_X16_assume_X16 : ∀ w ∈ u_ws RX16 TX16 26, w ∈ vs_k_X16_assume := (fun _ h => List.mem_cons_of_mem _ (List.mem_append_right _ (List.mem_append_left _ h)))
set_option maxRecDepth 20000 in
theorem gv_k_X16_assume_0 : GoodIn vs_k_X16_assume (wsV RX16 106 RX16 yX16_noPredicate vs_k_X16_noPredicate) := goodIn_app (goodIn_sub (by decide +kernel) (by decide +kernel)) (goodIn_sub (fun _ h => List.mem_cons_of_mem _ (List.mem_append_right _ (List.mem_append_right _ (List.mem_append_left _ h)))) (by decide +kernel))
set_option maxRecDepth 20000 in
theorem gv_k_X16_assume_1 : GoodIn vs_k_X16_assume (wsV RX16 87 RX16 yX16_fails vs_k_X16_fails_1_1) := goodIn_app (goodIn_sub (by decide +kernel) (by decide +kernel)) (goodIn_sub (fun _ h => List.mem_cons_of_mem _ (List.mem_append_right _ (List.mem_append_right _ (List.mem_append_right _ (h))))) (by decide +kernel))
set_option maxHeartbeats 4000000 in
set_option maxRecDepth 100000 in
theorem k_X16_assume (l : Launch) (D : va_G) (ty : Nat → ClassId) (td mi sz : Nat) (m0 : Nat) (m1 : Nat) (m2 : Nat) (m3 : Nat) (m4 : Nat) (m5 : Nat) (m6 : Nat) (m7 : Nat) (m8 : Nat) (m9 : Nat) (m10 : Nat) (m11 : Nat) (m12 : Nat) (m13 : Nat) (m14 : Nat) (m15 : Nat) (m16 : Nat) (k1 : Int32) (k2 : Int32) (k3 : Int32) (k4 : Int32) : Met l yX16_assume vs_k_X16_assume { frames := 2, cells := 0, slots := 0, locals := 43 } (va_Pc [.ref m0, .int k1, .int k2, .int k3, .int k4] (wq_P D ty td mi [(m0, .inr (20, [.int 0, .int 0, .ref m1, .ref m2, .ref m3, .int 0, .ref m4, .ref m5, .ref m6, .int 0, .ref m7, .ref m8, .ref m9, .int 0, .ref m10, .int 0, .ref m11, .ref m12, .ref m13, .int 0, .ref m14, .int 0, .int 0, .int 0, .ref m15, .ref m16]))] sz)) (va_Qi (fun (r : Int32) (u : va_W) => (r = 0 ∧ (u = [(m0, .inr (20, [.int 1, .int 0, .ref m1, .ref m2, .ref m3, .int 0, .ref m4, .ref m5, .ref m6, .int 0, .ref m7, .ref m8, .ref m9, .int 0, .ref m10, .int 0, .ref m11, .ref m12, .ref m13, .int 0, .ref m14, .int 0, .int 0, .int 0, .ref m15, .ref m16]))]))) (wq_B D (va_A [(m0, .inr (20, [.int 0, .int 0, .ref m1, .ref m2, .ref m3, .int 0, .ref m4, .ref m5, .ref m6, .int 0, .ref m7, .ref m8, .ref m9, .int 0, .ref m10, .int 0, .ref m11, .ref m12, .ref m13, .int 0, .ref m14, .int 0, .int 0, .int 0, .ref m15, .ref m16]))] sz)) (va_A [(m0, .inr (20, [.int 0, .int 0, .ref m1, .ref m2, .ref m3, .int 0, .ref m4, .ref m5, .ref m6, .int 0, .ref m7, .ref m8, .ref m9, .int 0, .ref m10, .int 0, .ref m11, .ref m12, .ref m13, .int 0, .ref m14, .int 0, .int 0, .int 0, .ref m15, .ref m16]))] sz)) 0 0 (va_A [(m0, .inr (20, [.int 0, .int 0, .ref m1, .ref m2, .ref m3, .int 0, .ref m4, .ref m5, .ref m6, .int 0, .ref m7, .ref m8, .ref m9, .int 0, .ref m10, .int 0, .ref m11, .ref m12, .ref m13, .int 0, .ref m14, .int 0, .int 0, .int 0, .ref m15, .ref m16]))] sz) := by
  refine Met.ofW (cc := cX16_assume) (maxL := 5) (ret := (some .int)) (by decide) rfl ?_
  intro p e s m args below meth c s₁ B hml hv
  obtain ⟨rfl, hsz, hP, hK, hD0, hE⟩ := hv
  have hx := B.exec
  have hb := B.bytes
  have hr := B.returns
  have hts := atoms_spec (ws := vs_k_X16_assume) B.pre
  have hown : s.vm.findClass RX16 = some m.cls := findClass_of_methodNamed B.named
  have hlocks := B.notSynchronized
  subst hsz
  have hD := hD0.self (sz := s.heap.size)
  generalize hAe : va_A [(m0, .inr (20, [.int 0, .int 0, .ref m1, .ref m2, .ref m3, .int 0, .ref m4, .ref m5, .ref m6, .int 0, .ref m7, .ref m8, .ref m9, .int 0, .ref m10, .int 0, .ref m11, .ref m12, .ref m13, .int 0, .ref m14, .int 0, .int 0, .int 0, .ref m15, .ref m16]))] s.heap.size = A at hD hE ⊢
  have hA : ∀ q : Nat, s.heap.size ≤ q → A q := fun q h => by rw [← hAe]; exact Or.inr h
  have hS : va_S A s.heap s.heap [] := va_S.rf
  have hP : va_P D vwCl [(m0, .inr (20, [.int 0, .int 0, .ref m1, .ref m2, .ref m3, .int 0, .ref m4, .ref m5, .ref m6, .int 0, .ref m7, .ref m8, .ref m9, .int 0, .ref m10, .int 0, .ref m11, .ref m12, .ref m13, .int 0, .ref m14, .int 0, .int 0, .int 0, .ref m15, .ref m16]))] s.heap := hP
  have hl := lv_entry ([.ref m0, .int k1, .int k2, .int k3, .int k4]) (n := 5) (Nat.le_of_ble_eq_true rfl)
  rw [lg_entry_eq]
  generalize (lg_sl ([.ref m0, .int k1, .int k2, .int k3, .int k4]) ++ List.replicate (5 - (lg_sl ([.ref m0, .int k1, .int k2, .int k3, .int k4])).length) Slot.unset).toArray = ls at hl ⊢
  have hl : lv_has ls 5 [(0, .ref m0), (1, .int k1), (2, .int k2), (3, .int k3), (4, .int k4)] := hl
  refine lv_aload_n hx hb dX16_assume_0 rfl (lv_at hl 0 rfl) ?_
  refine lv_iconst (v := 0) hx hb dX16_assume_1 (by decide) ?_
  refine va_put (D := D) (ci := 20) (v := .int 0) (ty := tyX16 0) (C := RX16) (T := TX16) (N := 26) hx hb hts iv_k_X16_assume_X16 tyX16 tyX16_ok nmX16 hown hK hP hD hS 0 rfl rfl 0 (by decide) (hts (.fieldLink RX16 65 "AnswerFoldModel" "thrown" "I") (by decide +kernel)) (fun _ h9 => h9) rfl (by decide +kernel) rfl rfl (Nat.le_of_ble_eq_true rfl) dX16_assume_2 (fun H locs hP hD hS => ?_)
  have hP : va_P D vwCl [(m0, .inr (20, [.int 0, .int 0, .ref m1, .ref m2, .ref m3, .int 0, .ref m4, .ref m5, .ref m6, .int 0, .ref m7, .ref m8, .ref m9, .int 0, .ref m10, .int 0, .ref m11, .ref m12, .ref m13, .int 0, .ref m14, .int 0, .int 0, .int 0, .ref m15, .ref m16]))] H := hP
  have hD : va_D A [(m0, .inr (20, [.int 0, .int 0, .ref m1, .ref m2, .ref m3, .int 0, .ref m4, .ref m5, .ref m6, .int 0, .ref m7, .ref m8, .ref m9, .int 0, .ref m10, .int 0, .ref m11, .ref m12, .ref m13, .int 0, .ref m14, .int 0, .int 0, .int 0, .ref m15, .ref m16]))] := hD
  refine lv_aload_n hx hb dX16_assume_5 rfl (lv_at hl 0 rfl) ?_
  refine lv_aload_n hx hb dX16_assume_6 rfl (lv_at hl 0 rfl) ?_
  refine lv_iload_n hx hb dX16_assume_7 rfl (lv_at hl 1 rfl) ?_
  refine wq_i (wc := [(m0, .inr (20, [.int 0, .int 0, .ref m1, .ref m2, .ref m3, .int 0, .ref m4, .ref m5, .ref m6, .int 0, .ref m7, .ref m8, .ref m9, .int 0, .ref m10, .int 0, .ref m11, .ref m12, .ref m13, .int 0, .ref m14, .int 0, .int 0, .int 0, .ref m15, .ref m16]))]) (wr := []) (va_runV (As := [.int k1]) (rest := [.ref m0]) ⟨hx, hb, hml, hown, hts⟩ (k_X16_noPredicate l D ty td mi H.size m0 m1 m2 m3 m4 m5 m6 m7 m8 m9 m10 m11 m12 m13 m14 m15 m16 k1) (cwV 1 hts gv_k_X16_assume_0 rfl rfl rfl (by decide +kernel) ⟨(Nat.le_of_ble_eq_true rfl), (Nat.le_of_ble_eq_true rfl)⟩) (wq_preV hP hD hK hE hS hA [0] rfl (by decide) 0 20 rfl rfl) rfl rfl hl.1 rfl (lv_room (Nat.le_of_ble_eq_true rfl)) dX16_assume_8 ⟨(Nat.le_of_ble_eq_true rfl), (Nat.le_of_ble_eq_true rfl)⟩) hS hA hP hD [0] [] rfl rfl (by decide) (by decide) (fun r u H locs hw hP hD hS => ?_)
  obtain ⟨rfl, rfl⟩ := hw
  have hP : va_P D vwCl [(m0, .inr (20, [.int 0, .int 0, .ref m1, .ref m2, .ref m3, .int 0, .ref m4, .ref m5, .ref m6, .int 0, .ref m7, .ref m8, .ref m9, .int 0, .ref m10, .int 0, .ref m11, .ref m12, .ref m13, .int 0, .ref m14, .int 0, .int 0, .int 0, .ref m15, .ref m16]))] H := hP
  have hD : va_D A [(m0, .inr (20, [.int 0, .int 0, .ref m1, .ref m2, .ref m3, .int 0, .ref m4, .ref m5, .ref m6, .int 0, .ref m7, .ref m8, .ref m9, .int 0, .ref m10, .int 0, .ref m11, .ref m12, .ref m13, .int 0, .ref m14, .int 0, .int 0, .int 0, .ref m15, .ref m16]))] := hD
  refine W.widen (k := 0) (n := 0) (Nat.le_of_ble_eq_true rfl) (Nat.le_of_ble_eq_true rfl) ?_
  refine lv_iconst (v := 1) hx hb dX16_assume_11 (by decide) ?_
  refine wq_i (wc := [(m0, .inr (20, [.int 0, .int 0, .ref m1, .ref m2, .ref m3, .int 0, .ref m4, .ref m5, .ref m6, .int 0, .ref m7, .ref m8, .ref m9, .int 0, .ref m10, .int 0, .ref m11, .ref m12, .ref m13, .int 0, .ref m14, .int 0, .int 0, .int 0, .ref m15, .ref m16]))]) (wr := []) (va_runV (As := [.int 1, .int 1]) (rest := []) ⟨hx, hb, hml, hown, hts⟩ (k_X16_fails_1_1 l D ty td mi H.size m0 m1 m2 m3 m4 m5 m6 m7 m8 m9 m10 m11 m12 m13 m14 m15 m16 0) (cwV 2 hts gv_k_X16_assume_1 rfl rfl rfl (by decide +kernel) ⟨(Nat.le_of_ble_eq_true rfl), (Nat.le_of_ble_eq_true rfl)⟩) (wq_preV hP hD hK hE hS hA [0] rfl (by decide) 0 20 rfl rfl) rfl rfl hl.1 rfl (lv_room (Nat.le_of_ble_eq_true rfl)) dX16_assume_12 ⟨(Nat.le_of_ble_eq_true rfl), (Nat.le_of_ble_eq_true rfl)⟩) hS hA hP hD [0] [] rfl rfl (by decide) (by decide) (fun r u H locs hw hP hD hS => ?_)
  obtain ⟨rfl, rfl⟩ := hw
  have hP : va_P D vwCl [(m0, .inr (20, [.int 1, .int 0, .ref m1, .ref m2, .ref m3, .int 0, .ref m4, .ref m5, .ref m6, .int 0, .ref m7, .ref m8, .ref m9, .int 0, .ref m10, .int 0, .ref m11, .ref m12, .ref m13, .int 0, .ref m14, .int 0, .int 0, .int 0, .ref m15, .ref m16]))] H := hP
  have hD : va_D A [(m0, .inr (20, [.int 1, .int 0, .ref m1, .ref m2, .ref m3, .int 0, .ref m4, .ref m5, .ref m6, .int 0, .ref m7, .ref m8, .ref m9, .int 0, .ref m10, .int 0, .ref m11, .ref m12, .ref m13, .int 0, .ref m14, .int 0, .int 0, .int 0, .ref m15, .ref m16]))] := hD
  refine W.widen (k := 0) (n := 0) (Nat.le_of_ble_eq_true rfl) (Nat.le_of_ble_eq_true rfl) ?_
  refine lv_if_ne (tgt := 33) hx hb dX16_assume_15 (by decide) (fun _ => ?_) (fun c0 => absurd c0 (by decide))
  refine lv_iconst (v := 0) hx hb dX16_assume_33 (by decide) ?_
  have hP9 := hP.sub (ws' := [(m0, .inr (20, [.int 1, .int 0, .ref m1, .ref m2, .ref m3, .int 0, .ref m4, .ref m5, .ref m6, .int 0, .ref m7, .ref m8, .ref m9, .int 0, .ref m10, .int 0, .ref m11, .ref m12, .ref m13, .int 0, .ref m14, .int 0, .int 0, .int 0, .ref m15, .ref m16]))]) [0] rfl
  have hD9 := hD.sub (ws' := [(m0, .inr (20, [.int 1, .int 0, .ref m1, .ref m2, .ref m3, .int 0, .ref m4, .ref m5, .ref m6, .int 0, .ref m7, .ref m8, .ref m9, .int 0, .ref m10, .int 0, .ref m11, .ref m12, .ref m13, .int 0, .ref m14, .int 0, .int 0, .int 0, .ref m15, .ref m16]))]) [0] (by decide) rfl
  refine W.widen (k := 0) (n := 0) (Nat.le_of_ble_eq_true rfl) (Nat.le_of_ble_eq_true rfl) ?_
  exact W.iret (v := 0) hx hb hr (fun t ht hW => ⟨⟨0, [(m0, .inr (20, [.int 1, .int 0, .ref m1, .ref m2, .ref m3, .int 0, .ref m4, .ref m5, .ref m6, .int 0, .ref m7, .ref m8, .ref m9, .int 0, .ref m10, .int 0, .ref m11, .ref m12, .ref m13, .int 0, .ref m14, .int 0, .int 0, .int 0, .ref m15, .ref m16]))], rfl, ⟨rfl, rfl⟩, wq_B.of ht hP9 hD9⟩, hS.F ht⟩) hS.2.2 dX16_assume_34
def vs_k_X16_state : List Cond := .code yX16_state cX16_state 5 (some .char) :: ([.fieldLink RX16 65 "AnswerFoldModel" "thrown" "I", .methodLink RX16 106 yX16_noPredicate, .instanceMethod yX16_noPredicate, .selects RX16 yX16_noPredicate yX16_noPredicate, .initialized RX16, .methodLink RX16 87 yX16_fails, .instanceMethod yX16_fails, .selects RX16 yX16_fails yX16_fails] ++ (u_ws RX16 TX16 26 ++ (vs_k_X16_noPredicate ++ (vs_k_X16_fails_1_1))))
theorem iv_k_X16_state_X16 : ∀ w ∈ u_ws RX16 TX16 26, w ∈ vs_k_X16_state := (fun _ h => List.mem_cons_of_mem _ (List.mem_append_right _ (List.mem_append_left _ h)))
set_option maxRecDepth 20000 in
theorem gv_k_X16_state_0 : GoodIn vs_k_X16_state (wsV RX16 106 RX16 yX16_noPredicate vs_k_X16_noPredicate) := goodIn_app (goodIn_sub (by decide +kernel) (by decide +kernel)) (goodIn_sub (fun _ h => List.mem_cons_of_mem _ (List.mem_append_right _ (List.mem_append_right _ (List.mem_append_left _ h)))) (by decide +kernel))
set_option maxRecDepth 20000 in
theorem gv_k_X16_state_1 : GoodIn vs_k_X16_state (wsV RX16 87 RX16 yX16_fails vs_k_X16_fails_1_1) := goodIn_app (goodIn_sub (by decide +kernel) (by decide +kernel)) (goodIn_sub (fun _ h => List.mem_cons_of_mem _ (List.mem_append_right _ (List.mem_append_right _ (List.mem_append_right _ (h))))) (by decide +kernel))
set_option maxHeartbeats 4000000 in
set_option maxRecDepth 100000 in
theorem k_X16_state (l : Launch) (D : va_G) (ty : Nat → ClassId) (td mi sz : Nat) (m0 : Nat) (m1 : Nat) (m2 : Nat) (m3 : Nat) (m4 : Nat) (m5 : Nat) (m6 : Nat) (m7 : Nat) (m8 : Nat) (m9 : Nat) (m10 : Nat) (m11 : Nat) (m12 : Nat) (m13 : Nat) (m14 : Nat) (m15 : Nat) (m16 : Nat) (k1 : Int32) (k2 : Int32) (k3 : Int32) : Met l yX16_state vs_k_X16_state { frames := 2, cells := 0, slots := 0, locals := 43 } (va_Pc [.ref m0, .int k1, .int k2, .int k3] (wq_P D ty td mi [(m0, .inr (20, [.int 0, .int 0, .ref m1, .ref m2, .ref m3, .int 0, .ref m4, .ref m5, .ref m6, .int 0, .ref m7, .ref m8, .ref m9, .int 0, .ref m10, .int 0, .ref m11, .ref m12, .ref m13, .int 0, .ref m14, .int 0, .int 0, .int 0, .ref m15, .ref m16]))] sz)) (va_Qi (fun (r : Int32) (u : va_W) => (r = 0 ∧ (u = [(m0, .inr (20, [.int 1, .int 0, .ref m1, .ref m2, .ref m3, .int 0, .ref m4, .ref m5, .ref m6, .int 0, .ref m7, .ref m8, .ref m9, .int 0, .ref m10, .int 0, .ref m11, .ref m12, .ref m13, .int 0, .ref m14, .int 0, .int 0, .int 0, .ref m15, .ref m16]))]))) (wq_B D (va_A [(m0, .inr (20, [.int 0, .int 0, .ref m1, .ref m2, .ref m3, .int 0, .ref m4, .ref m5, .ref m6, .int 0, .ref m7, .ref m8, .ref m9, .int 0, .ref m10, .int 0, .ref m11, .ref m12, .ref m13, .int 0, .ref m14, .int 0, .int 0, .int 0, .ref m15, .ref m16]))] sz)) (va_A [(m0, .inr (20, [.int 0, .int 0, .ref m1, .ref m2, .ref m3, .int 0, .ref m4, .ref m5, .ref m6, .int 0, .ref m7, .ref m8, .ref m9, .int 0, .ref m10, .int 0, .ref m11, .ref m12, .ref m13, .int 0, .ref m14, .int 0, .int 0, .int 0, .ref m15, .ref m16]))] sz)) 0 0 (va_A [(m0, .inr (20, [.int 0, .int 0, .ref m1, .ref m2, .ref m3, .int 0, .ref m4, .ref m5, .ref m6, .int 0, .ref m7, .ref m8, .ref m9, .int 0, .ref m10, .int 0, .ref m11, .ref m12, .ref m13, .int 0, .ref m14, .int 0, .int 0, .int 0, .ref m15, .ref m16]))] sz) := by
  refine Met.ofW (cc := cX16_state) (maxL := 5) (ret := (some .char)) (by decide) rfl ?_
  intro p e s m args below meth c s₁ B hml hv
  obtain ⟨rfl, hsz, hP, hK, hD0, hE⟩ := hv
  have hx := B.exec
  have hb := B.bytes
  have hr := B.returns
  have hts := atoms_spec (ws := vs_k_X16_state) B.pre
  have hown : s.vm.findClass RX16 = some m.cls := findClass_of_methodNamed B.named
  have hlocks := B.notSynchronized
  subst hsz
  have hD := hD0.self (sz := s.heap.size)
  generalize hAe : va_A [(m0, .inr (20, [.int 0, .int 0, .ref m1, .ref m2, .ref m3, .int 0, .ref m4, .ref m5, .ref m6, .int 0, .ref m7, .ref m8, .ref m9, .int 0, .ref m10, .int 0, .ref m11, .ref m12, .ref m13, .int 0, .ref m14, .int 0, .int 0, .int 0, .ref m15, .ref m16]))] s.heap.size = A at hD hE ⊢
  have hA : ∀ q : Nat, s.heap.size ≤ q → A q := fun q h => by rw [← hAe]; exact Or.inr h
  have hS : va_S A s.heap s.heap [] := va_S.rf
  have hP : va_P D vwCl [(m0, .inr (20, [.int 0, .int 0, .ref m1, .ref m2, .ref m3, .int 0, .ref m4, .ref m5, .ref m6, .int 0, .ref m7, .ref m8, .ref m9, .int 0, .ref m10, .int 0, .ref m11, .ref m12, .ref m13, .int 0, .ref m14, .int 0, .int 0, .int 0, .ref m15, .ref m16]))] s.heap := hP
  have hl := lv_entry ([.ref m0, .int k1, .int k2, .int k3]) (n := 5) (Nat.le_of_ble_eq_true rfl)
  rw [lg_entry_eq]
  generalize (lg_sl ([.ref m0, .int k1, .int k2, .int k3]) ++ List.replicate (5 - (lg_sl ([.ref m0, .int k1, .int k2, .int k3])).length) Slot.unset).toArray = ls at hl ⊢
  have hl : lv_has ls 5 [(0, .ref m0), (1, .int k1), (2, .int k2), (3, .int k3)] := hl
  refine lv_aload_n hx hb dX16_state_0 rfl (lv_at hl 0 rfl) ?_
  refine lv_iconst (v := 0) hx hb dX16_state_1 (by decide) ?_
  refine va_put (D := D) (ci := 20) (v := .int 0) (ty := tyX16 0) (C := RX16) (T := TX16) (N := 26) hx hb hts iv_k_X16_state_X16 tyX16 tyX16_ok nmX16 hown hK hP hD hS 0 rfl rfl 0 (by decide) (hts (.fieldLink RX16 65 "AnswerFoldModel" "thrown" "I") (by decide +kernel)) (fun _ h9 => h9) rfl (by decide +kernel) rfl rfl (Nat.le_of_ble_eq_true rfl) dX16_state_2 (fun H locs hP hD hS => ?_)
  have hP : va_P D vwCl [(m0, .inr (20, [.int 0, .int 0, .ref m1, .ref m2, .ref m3, .int 0, .ref m4, .ref m5, .ref m6, .int 0, .ref m7, .ref m8, .ref m9, .int 0, .ref m10, .int 0, .ref m11, .ref m12, .ref m13, .int 0, .ref m14, .int 0, .int 0, .int 0, .ref m15, .ref m16]))] H := hP
  have hD : va_D A [(m0, .inr (20, [.int 0, .int 0, .ref m1, .ref m2, .ref m3, .int 0, .ref m4, .ref m5, .ref m6, .int 0, .ref m7, .ref m8, .ref m9, .int 0, .ref m10, .int 0, .ref m11, .ref m12, .ref m13, .int 0, .ref m14, .int 0, .int 0, .int 0, .ref m15, .ref m16]))] := hD
  refine lv_aload_n hx hb dX16_state_5 rfl (lv_at hl 0 rfl) ?_
  refine lv_aload_n hx hb dX16_state_6 rfl (lv_at hl 0 rfl) ?_
  refine lv_iload_n hx hb dX16_state_7 rfl (lv_at hl 1 rfl) ?_
  refine wq_i (wc := [(m0, .inr (20, [.int 0, .int 0, .ref m1, .ref m2, .ref m3, .int 0, .ref m4, .ref m5, .ref m6, .int 0, .ref m7, .ref m8, .ref m9, .int 0, .ref m10, .int 0, .ref m11, .ref m12, .ref m13, .int 0, .ref m14, .int 0, .int 0, .int 0, .ref m15, .ref m16]))]) (wr := []) (va_runV (As := [.int k1]) (rest := [.ref m0]) ⟨hx, hb, hml, hown, hts⟩ (k_X16_noPredicate l D ty td mi H.size m0 m1 m2 m3 m4 m5 m6 m7 m8 m9 m10 m11 m12 m13 m14 m15 m16 k1) (cwV 1 hts gv_k_X16_state_0 rfl rfl rfl (by decide +kernel) ⟨(Nat.le_of_ble_eq_true rfl), (Nat.le_of_ble_eq_true rfl)⟩) (wq_preV hP hD hK hE hS hA [0] rfl (by decide) 0 20 rfl rfl) rfl rfl hl.1 rfl (lv_room (Nat.le_of_ble_eq_true rfl)) dX16_state_8 ⟨(Nat.le_of_ble_eq_true rfl), (Nat.le_of_ble_eq_true rfl)⟩) hS hA hP hD [0] [] rfl rfl (by decide) (by decide) (fun r u H locs hw hP hD hS => ?_)
  obtain ⟨rfl, rfl⟩ := hw
  have hP : va_P D vwCl [(m0, .inr (20, [.int 0, .int 0, .ref m1, .ref m2, .ref m3, .int 0, .ref m4, .ref m5, .ref m6, .int 0, .ref m7, .ref m8, .ref m9, .int 0, .ref m10, .int 0, .ref m11, .ref m12, .ref m13, .int 0, .ref m14, .int 0, .int 0, .int 0, .ref m15, .ref m16]))] H := hP
  have hD : va_D A [(m0, .inr (20, [.int 0, .int 0, .ref m1, .ref m2, .ref m3, .int 0, .ref m4, .ref m5, .ref m6, .int 0, .ref m7, .ref m8, .ref m9, .int 0, .ref m10, .int 0, .ref m11, .ref m12, .ref m13, .int 0, .ref m14, .int 0, .int 0, .int 0, .ref m15, .ref m16]))] := hD
  refine W.widen (k := 0) (n := 0) (Nat.le_of_ble_eq_true rfl) (Nat.le_of_ble_eq_true rfl) ?_
  refine lv_iconst (v := 1) hx hb dX16_state_11 (by decide) ?_
  refine wq_i (wc := [(m0, .inr (20, [.int 0, .int 0, .ref m1, .ref m2, .ref m3, .int 0, .ref m4, .ref m5, .ref m6, .int 0, .ref m7, .ref m8, .ref m9, .int 0, .ref m10, .int 0, .ref m11, .ref m12, .ref m13, .int 0, .ref m14, .int 0, .int 0, .int 0, .ref m15, .ref m16]))]) (wr := []) (va_runV (As := [.int 1, .int 1]) (rest := []) ⟨hx, hb, hml, hown, hts⟩ (k_X16_fails_1_1 l D ty td mi H.size m0 m1 m2 m3 m4 m5 m6 m7 m8 m9 m10 m11 m12 m13 m14 m15 m16 0) (cwV 2 hts gv_k_X16_state_1 rfl rfl rfl (by decide +kernel) ⟨(Nat.le_of_ble_eq_true rfl), (Nat.le_of_ble_eq_true rfl)⟩) (wq_preV hP hD hK hE hS hA [0] rfl (by decide) 0 20 rfl rfl) rfl rfl hl.1 rfl (lv_room (Nat.le_of_ble_eq_true rfl)) dX16_state_12 ⟨(Nat.le_of_ble_eq_true rfl), (Nat.le_of_ble_eq_true rfl)⟩) hS hA hP hD [0] [] rfl rfl (by decide) (by decide) (fun r u H locs hw hP hD hS => ?_)
  obtain ⟨rfl, rfl⟩ := hw
  have hP : va_P D vwCl [(m0, .inr (20, [.int 1, .int 0, .ref m1, .ref m2, .ref m3, .int 0, .ref m4, .ref m5, .ref m6, .int 0, .ref m7, .ref m8, .ref m9, .int 0, .ref m10, .int 0, .ref m11, .ref m12, .ref m13, .int 0, .ref m14, .int 0, .int 0, .int 0, .ref m15, .ref m16]))] H := hP
  have hD : va_D A [(m0, .inr (20, [.int 1, .int 0, .ref m1, .ref m2, .ref m3, .int 0, .ref m4, .ref m5, .ref m6, .int 0, .ref m7, .ref m8, .ref m9, .int 0, .ref m10, .int 0, .ref m11, .ref m12, .ref m13, .int 0, .ref m14, .int 0, .int 0, .int 0, .ref m15, .ref m16]))] := hD
  refine W.widen (k := 0) (n := 0) (Nat.le_of_ble_eq_true rfl) (Nat.le_of_ble_eq_true rfl) ?_
  refine lv_if_ne (tgt := 33) hx hb dX16_state_15 (by decide) (fun _ => ?_) (fun c0 => absurd c0 (by decide))
  refine lv_iconst (v := 0) hx hb dX16_state_33 (by decide) ?_
  have hP9 := hP.sub (ws' := [(m0, .inr (20, [.int 1, .int 0, .ref m1, .ref m2, .ref m3, .int 0, .ref m4, .ref m5, .ref m6, .int 0, .ref m7, .ref m8, .ref m9, .int 0, .ref m10, .int 0, .ref m11, .ref m12, .ref m13, .int 0, .ref m14, .int 0, .int 0, .int 0, .ref m15, .ref m16]))]) [0] rfl
  have hD9 := hD.sub (ws' := [(m0, .inr (20, [.int 1, .int 0, .ref m1, .ref m2, .ref m3, .int 0, .ref m4, .ref m5, .ref m6, .int 0, .ref m7, .ref m8, .ref m9, .int 0, .ref m10, .int 0, .ref m11, .ref m12, .ref m13, .int 0, .ref m14, .int 0, .int 0, .int 0, .ref m15, .ref m16]))]) [0] (by decide) rfl
  refine W.widen (k := 0) (n := 0) (Nat.le_of_ble_eq_true rfl) (Nat.le_of_ble_eq_true rfl) ?_
  exact W.zret (v := 0) hx hb hr rfl (fun t ht hW => ⟨⟨0, [(m0, .inr (20, [.int 1, .int 0, .ref m1, .ref m2, .ref m3, .int 0, .ref m4, .ref m5, .ref m6, .int 0, .ref m7, .ref m8, .ref m9, .int 0, .ref m10, .int 0, .ref m11, .ref m12, .ref m13, .int 0, .ref m14, .int 0, .int 0, .int 0, .ref m15, .ref m16]))], rfl, ⟨rfl, rfl⟩, wq_B.of ht hP9 hD9⟩, hS.F ht⟩) hS.2.2 dX16_state_34
def vs_k_X16_has_ : List Cond := .code yX16_has_ cX16_has_ 5 (some .boolean) :: ([.fieldLink RX16 65 "AnswerFoldModel" "thrown" "I", .fieldLink RX16 84 "AnswerFoldModel" "isWalked" "Z", .methodLink RX16 87 yX16_fails, .instanceMethod yX16_fails, .selects RX16 yX16_fails yX16_fails, .initialized RX16] ++ (u_ws RX16 TX16 26 ++ (vs_k_X16_fails_1_1)))
theorem iv_k_X16_has__X16 : ∀ w ∈ u_ws RX16 TX16 26, w ∈ vs_k_X16_has_ := (fun _ h => List.mem_cons_of_mem _ (List.mem_append_right _ (List.mem_append_left _ h)))
set_option maxRecDepth 20000 in
theorem gv_k_X16_has__0 : GoodIn vs_k_X16_has_ (wsV RX16 87 RX16 yX16_fails vs_k_X16_fails_1_1) := goodIn_app (goodIn_sub (by decide +kernel) (by decide +kernel)) (goodIn_sub (fun _ h => List.mem_cons_of_mem _ (List.mem_append_right _ (List.mem_append_right _ (h)))) (by decide +kernel))
set_option maxHeartbeats 4000000 in
set_option maxRecDepth 100000 in
theorem k_X16_has_ (l : Launch) (D : va_G) (ty : Nat → ClassId) (td mi sz : Nat) (m0 : Nat) (m1 : Nat) (m2 : Nat) (m3 : Nat) (m4 : Nat) (m5 : Nat) (m6 : Nat) (m7 : Nat) (m8 : Nat) (m9 : Nat) (m10 : Nat) (m11 : Nat) (m12 : Nat) (m13 : Nat) (m14 : Nat) (m15 : Nat) (m16 : Nat) (k1 : Int32) (k2 : Int32) (k3 : Int32) (k4 : Int32) : Met l yX16_has_ vs_k_X16_has_ { frames := 1, cells := 0, slots := 0, locals := 22 } (va_Pc [.ref m0, .int k1, .int k2, .int k3, .int k4] (wq_P D ty td mi [(m0, .inr (20, [.int 0, .int 0, .ref m1, .ref m2, .ref m3, .int 0, .ref m4, .ref m5, .ref m6, .int 0, .ref m7, .ref m8, .ref m9, .int 0, .ref m10, .int 0, .ref m11, .ref m12, .ref m13, .int 0, .ref m14, .int 0, .int 0, .int 0, .ref m15, .ref m16]))] sz)) (va_Qi (fun (r : Int32) (u : va_W) => (r = 0 ∧ (u = [(m0, .inr (20, [.int 1, .int 0, .ref m1, .ref m2, .ref m3, .int 0, .ref m4, .ref m5, .ref m6, .int 0, .ref m7, .ref m8, .ref m9, .int 0, .ref m10, .int 0, .ref m11, .ref m12, .ref m13, .int 0, .ref m14, .int 0, .int 0, .int 0, .ref m15, .ref m16]))]))) (wq_B D (va_A [(m0, .inr (20, [.int 0, .int 0, .ref m1, .ref m2, .ref m3, .int 0, .ref m4, .ref m5, .ref m6, .int 0, .ref m7, .ref m8, .ref m9, .int 0, .ref m10, .int 0, .ref m11, .ref m12, .ref m13, .int 0, .ref m14, .int 0, .int 0, .int 0, .ref m15, .ref m16]))] sz)) (va_A [(m0, .inr (20, [.int 0, .int 0, .ref m1, .ref m2, .ref m3, .int 0, .ref m4, .ref m5, .ref m6, .int 0, .ref m7, .ref m8, .ref m9, .int 0, .ref m10, .int 0, .ref m11, .ref m12, .ref m13, .int 0, .ref m14, .int 0, .int 0, .int 0, .ref m15, .ref m16]))] sz)) 0 0 (va_A [(m0, .inr (20, [.int 0, .int 0, .ref m1, .ref m2, .ref m3, .int 0, .ref m4, .ref m5, .ref m6, .int 0, .ref m7, .ref m8, .ref m9, .int 0, .ref m10, .int 0, .ref m11, .ref m12, .ref m13, .int 0, .ref m14, .int 0, .int 0, .int 0, .ref m15, .ref m16]))] sz) := by
  refine Met.ofW (cc := cX16_has_) (maxL := 5) (ret := (some .boolean)) (by decide) rfl ?_
  intro p e s m args below meth c s₁ B hml hv
  obtain ⟨rfl, hsz, hP, hK, hD0, hE⟩ := hv
  have hx := B.exec
  have hb := B.bytes
  have hr := B.returns
  have hts := atoms_spec (ws := vs_k_X16_has_) B.pre
  have hown : s.vm.findClass RX16 = some m.cls := findClass_of_methodNamed B.named
  have hlocks := B.notSynchronized
  subst hsz
  have hD := hD0.self (sz := s.heap.size)
  generalize hAe : va_A [(m0, .inr (20, [.int 0, .int 0, .ref m1, .ref m2, .ref m3, .int 0, .ref m4, .ref m5, .ref m6, .int 0, .ref m7, .ref m8, .ref m9, .int 0, .ref m10, .int 0, .ref m11, .ref m12, .ref m13, .int 0, .ref m14, .int 0, .int 0, .int 0, .ref m15, .ref m16]))] s.heap.size = A at hD hE ⊢
  have hA : ∀ q : Nat, s.heap.size ≤ q → A q := fun q h => by rw [← hAe]; exact Or.inr h
  have hS : va_S A s.heap s.heap [] := va_S.rf
  have hP : va_P D vwCl [(m0, .inr (20, [.int 0, .int 0, .ref m1, .ref m2, .ref m3, .int 0, .ref m4, .ref m5, .ref m6, .int 0, .ref m7, .ref m8, .ref m9, .int 0, .ref m10, .int 0, .ref m11, .ref m12, .ref m13, .int 0, .ref m14, .int 0, .int 0, .int 0, .ref m15, .ref m16]))] s.heap := hP
  have hl := lv_entry ([.ref m0, .int k1, .int k2, .int k3, .int k4]) (n := 5) (Nat.le_of_ble_eq_true rfl)
  rw [lg_entry_eq]
  generalize (lg_sl ([.ref m0, .int k1, .int k2, .int k3, .int k4]) ++ List.replicate (5 - (lg_sl ([.ref m0, .int k1, .int k2, .int k3, .int k4])).length) Slot.unset).toArray = ls at hl ⊢
  have hl : lv_has ls 5 [(0, .ref m0), (1, .int k1), (2, .int k2), (3, .int k3), (4, .int k4)] := hl
  refine lv_aload_n hx hb dX16_has__0 rfl (lv_at hl 0 rfl) ?_
  refine lv_iconst (v := 0) hx hb dX16_has__1 (by decide) ?_
  refine va_put (D := D) (ci := 20) (v := .int 0) (ty := tyX16 0) (C := RX16) (T := TX16) (N := 26) hx hb hts iv_k_X16_has__X16 tyX16 tyX16_ok nmX16 hown hK hP hD hS 0 rfl rfl 0 (by decide) (hts (.fieldLink RX16 65 "AnswerFoldModel" "thrown" "I") (by decide +kernel)) (fun _ h9 => h9) rfl (by decide +kernel) rfl rfl (Nat.le_of_ble_eq_true rfl) dX16_has__2 (fun H locs hP hD hS => ?_)
  have hP : va_P D vwCl [(m0, .inr (20, [.int 0, .int 0, .ref m1, .ref m2, .ref m3, .int 0, .ref m4, .ref m5, .ref m6, .int 0, .ref m7, .ref m8, .ref m9, .int 0, .ref m10, .int 0, .ref m11, .ref m12, .ref m13, .int 0, .ref m14, .int 0, .int 0, .int 0, .ref m15, .ref m16]))] H := hP
  have hD : va_D A [(m0, .inr (20, [.int 0, .int 0, .ref m1, .ref m2, .ref m3, .int 0, .ref m4, .ref m5, .ref m6, .int 0, .ref m7, .ref m8, .ref m9, .int 0, .ref m10, .int 0, .ref m11, .ref m12, .ref m13, .int 0, .ref m14, .int 0, .int 0, .int 0, .ref m15, .ref m16]))] := hD
  refine lv_aload_n hx hb dX16_has__5 rfl (lv_at hl 0 rfl) ?_
  refine lv_aload_n hx hb dX16_has__6 rfl (lv_at hl 0 rfl) ?_
  refine va_get (D := D) (ci := 20) (v := .int 0) (C := RX16) (T := TX16) (N := 26) hx hb hts iv_k_X16_has__X16 hown hK hP 0 rfl rfl 23 (by decide) (hts (.fieldLink RX16 84 "AnswerFoldModel" "isWalked" "Z") (by decide +kernel)) (fun _ h9 => h9) rfl dX16_has__7 ?_
  refine lv_if_ne (tgt := 17) hx hb dX16_has__10 (by decide) (fun c0 => absurd (by decide) c0) (fun _ => ?_)
  refine lv_iconst (v := 1) hx hb dX16_has__13 (by decide) ?_
  refine lv_goto (tgt := 18) hx hb dX16_has__14 (by decide) ?_
  refine lv_iconst (v := 1) hx hb dX16_has__18 (by decide) ?_
  refine wq_i (wc := [(m0, .inr (20, [.int 0, .int 0, .ref m1, .ref m2, .ref m3, .int 0, .ref m4, .ref m5, .ref m6, .int 0, .ref m7, .ref m8, .ref m9, .int 0, .ref m10, .int 0, .ref m11, .ref m12, .ref m13, .int 0, .ref m14, .int 0, .int 0, .int 0, .ref m15, .ref m16]))]) (wr := []) (va_runV (As := [.int 1, .int 1]) (rest := []) ⟨hx, hb, hml, hown, hts⟩ (k_X16_fails_1_1 l D ty td mi H.size m0 m1 m2 m3 m4 m5 m6 m7 m8 m9 m10 m11 m12 m13 m14 m15 m16 0) (cwV 2 hts gv_k_X16_has__0 rfl rfl rfl (by decide +kernel) ⟨(Nat.le_of_ble_eq_true rfl), (Nat.le_of_ble_eq_true rfl)⟩) (wq_preV hP hD hK hE hS hA [0] rfl (by decide) 0 20 rfl rfl) rfl rfl hl.1 rfl (lv_room (Nat.le_of_ble_eq_true rfl)) dX16_has__19 ⟨(Nat.le_of_ble_eq_true rfl), (Nat.le_of_ble_eq_true rfl)⟩) hS hA hP hD [0] [] rfl rfl (by decide) (by decide) (fun r u H locs hw hP hD hS => ?_)
  obtain ⟨rfl, rfl⟩ := hw
  have hP : va_P D vwCl [(m0, .inr (20, [.int 1, .int 0, .ref m1, .ref m2, .ref m3, .int 0, .ref m4, .ref m5, .ref m6, .int 0, .ref m7, .ref m8, .ref m9, .int 0, .ref m10, .int 0, .ref m11, .ref m12, .ref m13, .int 0, .ref m14, .int 0, .int 0, .int 0, .ref m15, .ref m16]))] H := hP
  have hD : va_D A [(m0, .inr (20, [.int 1, .int 0, .ref m1, .ref m2, .ref m3, .int 0, .ref m4, .ref m5, .ref m6, .int 0, .ref m7, .ref m8, .ref m9, .int 0, .ref m10, .int 0, .ref m11, .ref m12, .ref m13, .int 0, .ref m14, .int 0, .int 0, .int 0, .ref m15, .ref m16]))] := hD
  refine W.widen (k := 0) (n := 0) (Nat.le_of_ble_eq_true rfl) (Nat.le_of_ble_eq_true rfl) ?_
  refine lv_if_ne (tgt := 90) hx hb dX16_has__22 (by decide) (fun _ => ?_) (fun c0 => absurd c0 (by decide))
  refine lv_iconst (v := 0) hx hb dX16_has__90 (by decide) ?_
  have hP9 := hP.sub (ws' := [(m0, .inr (20, [.int 1, .int 0, .ref m1, .ref m2, .ref m3, .int 0, .ref m4, .ref m5, .ref m6, .int 0, .ref m7, .ref m8, .ref m9, .int 0, .ref m10, .int 0, .ref m11, .ref m12, .ref m13, .int 0, .ref m14, .int 0, .int 0, .int 0, .ref m15, .ref m16]))]) [0] rfl
  have hD9 := hD.sub (ws' := [(m0, .inr (20, [.int 1, .int 0, .ref m1, .ref m2, .ref m3, .int 0, .ref m4, .ref m5, .ref m6, .int 0, .ref m7, .ref m8, .ref m9, .int 0, .ref m10, .int 0, .ref m11, .ref m12, .ref m13, .int 0, .ref m14, .int 0, .int 0, .int 0, .ref m15, .ref m16]))]) [0] (by decide) rfl
  refine W.widen (k := 0) (n := 0) (Nat.le_of_ble_eq_true rfl) (Nat.le_of_ble_eq_true rfl) ?_
  exact W.zret (v := 0) hx hb hr rfl (fun t ht hW => ⟨⟨0, [(m0, .inr (20, [.int 1, .int 0, .ref m1, .ref m2, .ref m3, .int 0, .ref m4, .ref m5, .ref m6, .int 0, .ref m7, .ref m8, .ref m9, .int 0, .ref m10, .int 0, .ref m11, .ref m12, .ref m13, .int 0, .ref m14, .int 0, .int 0, .int 0, .ref m15, .ref m16]))], rfl, ⟨rfl, rfl⟩, wq_B.of ht hP9 hD9⟩, hS.F ht⟩) hS.2.2 dX16_has__91
def vs_k_X16_size : List Cond := .code yX16_size cX16_size 2 (some .int) :: ([.fieldLink RX16 65 "AnswerFoldModel" "thrown" "I", .fieldLink RX16 84 "AnswerFoldModel" "isWalked" "Z", .methodLink RX16 87 yX16_fails, .instanceMethod yX16_fails, .selects RX16 yX16_fails yX16_fails, .initialized RX16] ++ (u_ws RX16 TX16 26 ++ (vs_k_X16_fails_1_1)))
theorem iv_k_X16_size_X16 : ∀ w ∈ u_ws RX16 TX16 26, w ∈ vs_k_X16_size := (fun _ h => List.mem_cons_of_mem _ (List.mem_append_right _ (List.mem_append_left _ h)))
set_option maxRecDepth 20000 in
theorem gv_k_X16_size_0 : GoodIn vs_k_X16_size (wsV RX16 87 RX16 yX16_fails vs_k_X16_fails_1_1) := goodIn_app (goodIn_sub (by decide +kernel) (by decide +kernel)) (goodIn_sub (fun _ h => List.mem_cons_of_mem _ (List.mem_append_right _ (List.mem_append_right _ (h)))) (by decide +kernel))
set_option maxHeartbeats 4000000 in
set_option maxRecDepth 100000 in
theorem k_X16_size (l : Launch) (D : va_G) (ty : Nat → ClassId) (td mi sz : Nat) (m0 : Nat) (m1 : Nat) (m2 : Nat) (m3 : Nat) (m4 : Nat) (m5 : Nat) (m6 : Nat) (m7 : Nat) (m8 : Nat) (m9 : Nat) (m10 : Nat) (m11 : Nat) (m12 : Nat) (m13 : Nat) (m14 : Nat) (m15 : Nat) (m16 : Nat) (k1 : Int32) : Met l yX16_size vs_k_X16_size { frames := 1, cells := 0, slots := 0, locals := 22 } (va_Pc [.ref m0, .int k1] (wq_P D ty td mi [(m0, .inr (20, [.int 0, .int 0, .ref m1, .ref m2, .ref m3, .int 0, .ref m4, .ref m5, .ref m6, .int 0, .ref m7, .ref m8, .ref m9, .int 0, .ref m10, .int 0, .ref m11, .ref m12, .ref m13, .int 0, .ref m14, .int 0, .int 0, .int 0, .ref m15, .ref m16]))] sz)) (va_Qi (fun (r : Int32) (u : va_W) => (r = 0 ∧ (u = [(m0, .inr (20, [.int 1, .int 0, .ref m1, .ref m2, .ref m3, .int 0, .ref m4, .ref m5, .ref m6, .int 0, .ref m7, .ref m8, .ref m9, .int 0, .ref m10, .int 0, .ref m11, .ref m12, .ref m13, .int 0, .ref m14, .int 0, .int 0, .int 0, .ref m15, .ref m16]))]))) (wq_B D (va_A [(m0, .inr (20, [.int 0, .int 0, .ref m1, .ref m2, .ref m3, .int 0, .ref m4, .ref m5, .ref m6, .int 0, .ref m7, .ref m8, .ref m9, .int 0, .ref m10, .int 0, .ref m11, .ref m12, .ref m13, .int 0, .ref m14, .int 0, .int 0, .int 0, .ref m15, .ref m16]))] sz)) (va_A [(m0, .inr (20, [.int 0, .int 0, .ref m1, .ref m2, .ref m3, .int 0, .ref m4, .ref m5, .ref m6, .int 0, .ref m7, .ref m8, .ref m9, .int 0, .ref m10, .int 0, .ref m11, .ref m12, .ref m13, .int 0, .ref m14, .int 0, .int 0, .int 0, .ref m15, .ref m16]))] sz)) 0 0 (va_A [(m0, .inr (20, [.int 0, .int 0, .ref m1, .ref m2, .ref m3, .int 0, .ref m4, .ref m5, .ref m6, .int 0, .ref m7, .ref m8, .ref m9, .int 0, .ref m10, .int 0, .ref m11, .ref m12, .ref m13, .int 0, .ref m14, .int 0, .int 0, .int 0, .ref m15, .ref m16]))] sz) := by
  refine Met.ofW (cc := cX16_size) (maxL := 2) (ret := (some .int)) (by decide) rfl ?_
  intro p e s m args below meth c s₁ B hml hv
  obtain ⟨rfl, hsz, hP, hK, hD0, hE⟩ := hv
  have hx := B.exec
  have hb := B.bytes
  have hr := B.returns
  have hts := atoms_spec (ws := vs_k_X16_size) B.pre
  have hown : s.vm.findClass RX16 = some m.cls := findClass_of_methodNamed B.named
  have hlocks := B.notSynchronized
  subst hsz
  have hD := hD0.self (sz := s.heap.size)
  generalize hAe : va_A [(m0, .inr (20, [.int 0, .int 0, .ref m1, .ref m2, .ref m3, .int 0, .ref m4, .ref m5, .ref m6, .int 0, .ref m7, .ref m8, .ref m9, .int 0, .ref m10, .int 0, .ref m11, .ref m12, .ref m13, .int 0, .ref m14, .int 0, .int 0, .int 0, .ref m15, .ref m16]))] s.heap.size = A at hD hE ⊢
  have hA : ∀ q : Nat, s.heap.size ≤ q → A q := fun q h => by rw [← hAe]; exact Or.inr h
  have hS : va_S A s.heap s.heap [] := va_S.rf
  have hP : va_P D vwCl [(m0, .inr (20, [.int 0, .int 0, .ref m1, .ref m2, .ref m3, .int 0, .ref m4, .ref m5, .ref m6, .int 0, .ref m7, .ref m8, .ref m9, .int 0, .ref m10, .int 0, .ref m11, .ref m12, .ref m13, .int 0, .ref m14, .int 0, .int 0, .int 0, .ref m15, .ref m16]))] s.heap := hP
  have hl := lv_entry ([.ref m0, .int k1]) (n := 2) (Nat.le_of_ble_eq_true rfl)
  rw [lg_entry_eq]
  generalize (lg_sl ([.ref m0, .int k1]) ++ List.replicate (2 - (lg_sl ([.ref m0, .int k1])).length) Slot.unset).toArray = ls at hl ⊢
  have hl : lv_has ls 2 [(0, .ref m0), (1, .int k1)] := hl
  refine lv_aload_n hx hb dX16_size_0 rfl (lv_at hl 0 rfl) ?_
  refine lv_iconst (v := 0) hx hb dX16_size_1 (by decide) ?_
  refine va_put (D := D) (ci := 20) (v := .int 0) (ty := tyX16 0) (C := RX16) (T := TX16) (N := 26) hx hb hts iv_k_X16_size_X16 tyX16 tyX16_ok nmX16 hown hK hP hD hS 0 rfl rfl 0 (by decide) (hts (.fieldLink RX16 65 "AnswerFoldModel" "thrown" "I") (by decide +kernel)) (fun _ h9 => h9) rfl (by decide +kernel) rfl rfl (Nat.le_of_ble_eq_true rfl) dX16_size_2 (fun H locs hP hD hS => ?_)
  have hP : va_P D vwCl [(m0, .inr (20, [.int 0, .int 0, .ref m1, .ref m2, .ref m3, .int 0, .ref m4, .ref m5, .ref m6, .int 0, .ref m7, .ref m8, .ref m9, .int 0, .ref m10, .int 0, .ref m11, .ref m12, .ref m13, .int 0, .ref m14, .int 0, .int 0, .int 0, .ref m15, .ref m16]))] H := hP
  have hD : va_D A [(m0, .inr (20, [.int 0, .int 0, .ref m1, .ref m2, .ref m3, .int 0, .ref m4, .ref m5, .ref m6, .int 0, .ref m7, .ref m8, .ref m9, .int 0, .ref m10, .int 0, .ref m11, .ref m12, .ref m13, .int 0, .ref m14, .int 0, .int 0, .int 0, .ref m15, .ref m16]))] := hD
  refine lv_aload_n hx hb dX16_size_5 rfl (lv_at hl 0 rfl) ?_
  refine lv_aload_n hx hb dX16_size_6 rfl (lv_at hl 0 rfl) ?_
  refine va_get (D := D) (ci := 20) (v := .int 0) (C := RX16) (T := TX16) (N := 26) hx hb hts iv_k_X16_size_X16 hown hK hP 0 rfl rfl 23 (by decide) (hts (.fieldLink RX16 84 "AnswerFoldModel" "isWalked" "Z") (by decide +kernel)) (fun _ h9 => h9) rfl dX16_size_7 ?_
  refine lv_if_ne (tgt := 17) hx hb dX16_size_10 (by decide) (fun c0 => absurd (by decide) c0) (fun _ => ?_)
  refine lv_iconst (v := 1) hx hb dX16_size_13 (by decide) ?_
  refine lv_goto (tgt := 18) hx hb dX16_size_14 (by decide) ?_
  refine lv_iconst (v := 1) hx hb dX16_size_18 (by decide) ?_
  refine wq_i (wc := [(m0, .inr (20, [.int 0, .int 0, .ref m1, .ref m2, .ref m3, .int 0, .ref m4, .ref m5, .ref m6, .int 0, .ref m7, .ref m8, .ref m9, .int 0, .ref m10, .int 0, .ref m11, .ref m12, .ref m13, .int 0, .ref m14, .int 0, .int 0, .int 0, .ref m15, .ref m16]))]) (wr := []) (va_runV (As := [.int 1, .int 1]) (rest := []) ⟨hx, hb, hml, hown, hts⟩ (k_X16_fails_1_1 l D ty td mi H.size m0 m1 m2 m3 m4 m5 m6 m7 m8 m9 m10 m11 m12 m13 m14 m15 m16 0) (cwV 2 hts gv_k_X16_size_0 rfl rfl rfl (by decide +kernel) ⟨(Nat.le_of_ble_eq_true rfl), (Nat.le_of_ble_eq_true rfl)⟩) (wq_preV hP hD hK hE hS hA [0] rfl (by decide) 0 20 rfl rfl) rfl rfl hl.1 rfl (lv_room (Nat.le_of_ble_eq_true rfl)) dX16_size_19 ⟨(Nat.le_of_ble_eq_true rfl), (Nat.le_of_ble_eq_true rfl)⟩) hS hA hP hD [0] [] rfl rfl (by decide) (by decide) (fun r u H locs hw hP hD hS => ?_)
  obtain ⟨rfl, rfl⟩ := hw
  have hP : va_P D vwCl [(m0, .inr (20, [.int 1, .int 0, .ref m1, .ref m2, .ref m3, .int 0, .ref m4, .ref m5, .ref m6, .int 0, .ref m7, .ref m8, .ref m9, .int 0, .ref m10, .int 0, .ref m11, .ref m12, .ref m13, .int 0, .ref m14, .int 0, .int 0, .int 0, .ref m15, .ref m16]))] H := hP
  have hD : va_D A [(m0, .inr (20, [.int 1, .int 0, .ref m1, .ref m2, .ref m3, .int 0, .ref m4, .ref m5, .ref m6, .int 0, .ref m7, .ref m8, .ref m9, .int 0, .ref m10, .int 0, .ref m11, .ref m12, .ref m13, .int 0, .ref m14, .int 0, .int 0, .int 0, .ref m15, .ref m16]))] := hD
  refine W.widen (k := 0) (n := 0) (Nat.le_of_ble_eq_true rfl) (Nat.le_of_ble_eq_true rfl) ?_
  refine lv_if_ne (tgt := 38) hx hb dX16_size_22 (by decide) (fun _ => ?_) (fun c0 => absurd c0 (by decide))
  refine lv_iconst (v := 0) hx hb dX16_size_38 (by decide) ?_
  refine lv_goto (tgt := 64) hx hb dX16_size_39 (by decide) ?_
  have hP9 := hP.sub (ws' := [(m0, .inr (20, [.int 1, .int 0, .ref m1, .ref m2, .ref m3, .int 0, .ref m4, .ref m5, .ref m6, .int 0, .ref m7, .ref m8, .ref m9, .int 0, .ref m10, .int 0, .ref m11, .ref m12, .ref m13, .int 0, .ref m14, .int 0, .int 0, .int 0, .ref m15, .ref m16]))]) [0] rfl
  have hD9 := hD.sub (ws' := [(m0, .inr (20, [.int 1, .int 0, .ref m1, .ref m2, .ref m3, .int 0, .ref m4, .ref m5, .ref m6, .int 0, .ref m7, .ref m8, .ref m9, .int 0, .ref m10, .int 0, .ref m11, .ref m12, .ref m13, .int 0, .ref m14, .int 0, .int 0, .int 0, .ref m15, .ref m16]))]) [0] (by decide) rfl
  refine W.widen (k := 0) (n := 0) (Nat.le_of_ble_eq_true rfl) (Nat.le_of_ble_eq_true rfl) ?_
  exact W.iret (v := 0) hx hb hr (fun t ht hW => ⟨⟨0, [(m0, .inr (20, [.int 1, .int 0, .ref m1, .ref m2, .ref m3, .int 0, .ref m4, .ref m5, .ref m6, .int 0, .ref m7, .ref m8, .ref m9, .int 0, .ref m10, .int 0, .ref m11, .ref m12, .ref m13, .int 0, .ref m14, .int 0, .int 0, .int 0, .ref m15, .ref m16]))], rfl, ⟨rfl, rfl⟩, wq_B.of ht hP9 hD9⟩, hS.F ht⟩) hS.2.2 dX16_size_64
def vs_k_X16_cost : List Cond := .code yX16_cost cX16_cost 3 (some .long) :: ([.fieldLink RX16 65 "AnswerFoldModel" "thrown" "I", .fieldLink RX16 84 "AnswerFoldModel" "isWalked" "Z", .methodLink RX16 87 yX16_fails, .instanceMethod yX16_fails, .selects RX16 yX16_fails yX16_fails, .initialized RX16] ++ (u_ws RX16 TX16 26 ++ (vs_k_X16_fails_1_1)))
theorem iv_k_X16_cost_X16 : ∀ w ∈ u_ws RX16 TX16 26, w ∈ vs_k_X16_cost := (fun _ h => List.mem_cons_of_mem _ (List.mem_append_right _ (List.mem_append_left _ h)))
set_option maxRecDepth 20000 in
theorem gv_k_X16_cost_0 : GoodIn vs_k_X16_cost (wsV RX16 87 RX16 yX16_fails vs_k_X16_fails_1_1) := goodIn_app (goodIn_sub (by decide +kernel) (by decide +kernel)) (goodIn_sub (fun _ h => List.mem_cons_of_mem _ (List.mem_append_right _ (List.mem_append_right _ (h)))) (by decide +kernel))
set_option maxHeartbeats 4000000 in
set_option maxRecDepth 100000 in
theorem k_X16_cost (l : Launch) (D : va_G) (ty : Nat → ClassId) (td mi sz : Nat) (m0 : Nat) (m1 : Nat) (m2 : Nat) (m3 : Nat) (m4 : Nat) (m5 : Nat) (m6 : Nat) (m7 : Nat) (m8 : Nat) (m9 : Nat) (m10 : Nat) (m11 : Nat) (m12 : Nat) (m13 : Nat) (m14 : Nat) (m15 : Nat) (m16 : Nat) (k1 : Int32) (k2 : Int32) : Met l yX16_cost vs_k_X16_cost { frames := 1, cells := 0, slots := 0, locals := 22 } (va_Pc [.ref m0, .int k1, .int k2] (wq_P D ty td mi [(m0, .inr (20, [.int 0, .int 0, .ref m1, .ref m2, .ref m3, .int 0, .ref m4, .ref m5, .ref m6, .int 0, .ref m7, .ref m8, .ref m9, .int 0, .ref m10, .int 0, .ref m11, .ref m12, .ref m13, .int 0, .ref m14, .int 0, .int 0, .int 0, .ref m15, .ref m16]))] sz)) (va_Ql (fun (r : Int64) (u : va_W) => (r = 0 ∧ (u = [(m0, .inr (20, [.int 1, .int 0, .ref m1, .ref m2, .ref m3, .int 0, .ref m4, .ref m5, .ref m6, .int 0, .ref m7, .ref m8, .ref m9, .int 0, .ref m10, .int 0, .ref m11, .ref m12, .ref m13, .int 0, .ref m14, .int 0, .int 0, .int 0, .ref m15, .ref m16]))]))) (wq_B D (va_A [(m0, .inr (20, [.int 0, .int 0, .ref m1, .ref m2, .ref m3, .int 0, .ref m4, .ref m5, .ref m6, .int 0, .ref m7, .ref m8, .ref m9, .int 0, .ref m10, .int 0, .ref m11, .ref m12, .ref m13, .int 0, .ref m14, .int 0, .int 0, .int 0, .ref m15, .ref m16]))] sz)) (va_A [(m0, .inr (20, [.int 0, .int 0, .ref m1, .ref m2, .ref m3, .int 0, .ref m4, .ref m5, .ref m6, .int 0, .ref m7, .ref m8, .ref m9, .int 0, .ref m10, .int 0, .ref m11, .ref m12, .ref m13, .int 0, .ref m14, .int 0, .int 0, .int 0, .ref m15, .ref m16]))] sz)) 0 0 (va_A [(m0, .inr (20, [.int 0, .int 0, .ref m1, .ref m2, .ref m3, .int 0, .ref m4, .ref m5, .ref m6, .int 0, .ref m7, .ref m8, .ref m9, .int 0, .ref m10, .int 0, .ref m11, .ref m12, .ref m13, .int 0, .ref m14, .int 0, .int 0, .int 0, .ref m15, .ref m16]))] sz) := by
  refine Met.ofW (cc := cX16_cost) (maxL := 3) (ret := (some .long)) (by decide) rfl ?_
  intro p e s m args below meth c s₁ B hml hv
  obtain ⟨rfl, hsz, hP, hK, hD0, hE⟩ := hv
  have hx := B.exec
  have hb := B.bytes
  have hr := B.returns
  have hts := atoms_spec (ws := vs_k_X16_cost) B.pre
  have hown : s.vm.findClass RX16 = some m.cls := findClass_of_methodNamed B.named
  have hlocks := B.notSynchronized
  subst hsz
  have hD := hD0.self (sz := s.heap.size)
  generalize hAe : va_A [(m0, .inr (20, [.int 0, .int 0, .ref m1, .ref m2, .ref m3, .int 0, .ref m4, .ref m5, .ref m6, .int 0, .ref m7, .ref m8, .ref m9, .int 0, .ref m10, .int 0, .ref m11, .ref m12, .ref m13, .int 0, .ref m14, .int 0, .int 0, .int 0, .ref m15, .ref m16]))] s.heap.size = A at hD hE ⊢
  have hA : ∀ q : Nat, s.heap.size ≤ q → A q := fun q h => by rw [← hAe]; exact Or.inr h
  have hS : va_S A s.heap s.heap [] := va_S.rf
  have hP : va_P D vwCl [(m0, .inr (20, [.int 0, .int 0, .ref m1, .ref m2, .ref m3, .int 0, .ref m4, .ref m5, .ref m6, .int 0, .ref m7, .ref m8, .ref m9, .int 0, .ref m10, .int 0, .ref m11, .ref m12, .ref m13, .int 0, .ref m14, .int 0, .int 0, .int 0, .ref m15, .ref m16]))] s.heap := hP
  have hl := lv_entry ([.ref m0, .int k1, .int k2]) (n := 3) (Nat.le_of_ble_eq_true rfl)
  rw [lg_entry_eq]
  generalize (lg_sl ([.ref m0, .int k1, .int k2]) ++ List.replicate (3 - (lg_sl ([.ref m0, .int k1, .int k2])).length) Slot.unset).toArray = ls at hl ⊢
  have hl : lv_has ls 3 [(0, .ref m0), (1, .int k1), (2, .int k2)] := hl
  refine lv_aload_n hx hb dX16_cost_0 rfl (lv_at hl 0 rfl) ?_
  refine lv_iconst (v := 0) hx hb dX16_cost_1 (by decide) ?_
  refine va_put (D := D) (ci := 20) (v := .int 0) (ty := tyX16 0) (C := RX16) (T := TX16) (N := 26) hx hb hts iv_k_X16_cost_X16 tyX16 tyX16_ok nmX16 hown hK hP hD hS 0 rfl rfl 0 (by decide) (hts (.fieldLink RX16 65 "AnswerFoldModel" "thrown" "I") (by decide +kernel)) (fun _ h9 => h9) rfl (by decide +kernel) rfl rfl (Nat.le_of_ble_eq_true rfl) dX16_cost_2 (fun H locs hP hD hS => ?_)
  have hP : va_P D vwCl [(m0, .inr (20, [.int 0, .int 0, .ref m1, .ref m2, .ref m3, .int 0, .ref m4, .ref m5, .ref m6, .int 0, .ref m7, .ref m8, .ref m9, .int 0, .ref m10, .int 0, .ref m11, .ref m12, .ref m13, .int 0, .ref m14, .int 0, .int 0, .int 0, .ref m15, .ref m16]))] H := hP
  have hD : va_D A [(m0, .inr (20, [.int 0, .int 0, .ref m1, .ref m2, .ref m3, .int 0, .ref m4, .ref m5, .ref m6, .int 0, .ref m7, .ref m8, .ref m9, .int 0, .ref m10, .int 0, .ref m11, .ref m12, .ref m13, .int 0, .ref m14, .int 0, .int 0, .int 0, .ref m15, .ref m16]))] := hD
  refine lv_aload_n hx hb dX16_cost_5 rfl (lv_at hl 0 rfl) ?_
  refine lv_aload_n hx hb dX16_cost_6 rfl (lv_at hl 0 rfl) ?_
  refine va_get (D := D) (ci := 20) (v := .int 0) (C := RX16) (T := TX16) (N := 26) hx hb hts iv_k_X16_cost_X16 hown hK hP 0 rfl rfl 23 (by decide) (hts (.fieldLink RX16 84 "AnswerFoldModel" "isWalked" "Z") (by decide +kernel)) (fun _ h9 => h9) rfl dX16_cost_7 ?_
  refine lv_if_ne (tgt := 17) hx hb dX16_cost_10 (by decide) (fun c0 => absurd (by decide) c0) (fun _ => ?_)
  refine lv_iconst (v := 1) hx hb dX16_cost_13 (by decide) ?_
  refine lv_goto (tgt := 18) hx hb dX16_cost_14 (by decide) ?_
  refine lv_iconst (v := 1) hx hb dX16_cost_18 (by decide) ?_
  refine wq_i (wc := [(m0, .inr (20, [.int 0, .int 0, .ref m1, .ref m2, .ref m3, .int 0, .ref m4, .ref m5, .ref m6, .int 0, .ref m7, .ref m8, .ref m9, .int 0, .ref m10, .int 0, .ref m11, .ref m12, .ref m13, .int 0, .ref m14, .int 0, .int 0, .int 0, .ref m15, .ref m16]))]) (wr := []) (va_runV (As := [.int 1, .int 1]) (rest := []) ⟨hx, hb, hml, hown, hts⟩ (k_X16_fails_1_1 l D ty td mi H.size m0 m1 m2 m3 m4 m5 m6 m7 m8 m9 m10 m11 m12 m13 m14 m15 m16 0) (cwV 2 hts gv_k_X16_cost_0 rfl rfl rfl (by decide +kernel) ⟨(Nat.le_of_ble_eq_true rfl), (Nat.le_of_ble_eq_true rfl)⟩) (wq_preV hP hD hK hE hS hA [0] rfl (by decide) 0 20 rfl rfl) rfl rfl hl.1 rfl (lv_room (Nat.le_of_ble_eq_true rfl)) dX16_cost_19 ⟨(Nat.le_of_ble_eq_true rfl), (Nat.le_of_ble_eq_true rfl)⟩) hS hA hP hD [0] [] rfl rfl (by decide) (by decide) (fun r u H locs hw hP hD hS => ?_)
  obtain ⟨rfl, rfl⟩ := hw
  have hP : va_P D vwCl [(m0, .inr (20, [.int 1, .int 0, .ref m1, .ref m2, .ref m3, .int 0, .ref m4, .ref m5, .ref m6, .int 0, .ref m7, .ref m8, .ref m9, .int 0, .ref m10, .int 0, .ref m11, .ref m12, .ref m13, .int 0, .ref m14, .int 0, .int 0, .int 0, .ref m15, .ref m16]))] H := hP
  have hD : va_D A [(m0, .inr (20, [.int 1, .int 0, .ref m1, .ref m2, .ref m3, .int 0, .ref m4, .ref m5, .ref m6, .int 0, .ref m7, .ref m8, .ref m9, .int 0, .ref m10, .int 0, .ref m11, .ref m12, .ref m13, .int 0, .ref m14, .int 0, .int 0, .int 0, .ref m15, .ref m16]))] := hD
  refine W.widen (k := 0) (n := 0) (Nat.le_of_ble_eq_true rfl) (Nat.le_of_ble_eq_true rfl) ?_
  refine lv_if_ne (tgt := 60) hx hb dX16_cost_22 (by decide) (fun _ => ?_) (fun c0 => absurd c0 (by decide))
  refine lv_lconst (v := 0) hx hb dX16_cost_60 (by decide) ?_
  refine lv_goto (tgt := 80) hx hb dX16_cost_61 (by decide) ?_
  have hP9 := hP.sub (ws' := [(m0, .inr (20, [.int 1, .int 0, .ref m1, .ref m2, .ref m3, .int 0, .ref m4, .ref m5, .ref m6, .int 0, .ref m7, .ref m8, .ref m9, .int 0, .ref m10, .int 0, .ref m11, .ref m12, .ref m13, .int 0, .ref m14, .int 0, .int 0, .int 0, .ref m15, .ref m16]))]) [0] rfl
  have hD9 := hD.sub (ws' := [(m0, .inr (20, [.int 1, .int 0, .ref m1, .ref m2, .ref m3, .int 0, .ref m4, .ref m5, .ref m6, .int 0, .ref m7, .ref m8, .ref m9, .int 0, .ref m10, .int 0, .ref m11, .ref m12, .ref m13, .int 0, .ref m14, .int 0, .int 0, .int 0, .ref m15, .ref m16]))]) [0] (by decide) rfl
  refine W.widen (k := 0) (n := 0) (Nat.le_of_ble_eq_true rfl) (Nat.le_of_ble_eq_true rfl) ?_
  exact W.lret (v := 0) hx hb hr (fun t ht hW => ⟨⟨0, [(m0, .inr (20, [.int 1, .int 0, .ref m1, .ref m2, .ref m3, .int 0, .ref m4, .ref m5, .ref m6, .int 0, .ref m7, .ref m8, .ref m9, .int 0, .ref m10, .int 0, .ref m11, .ref m12, .ref m13, .int 0, .ref m14, .int 0, .int 0, .int 0, .ref m15, .ref m16]))], rfl, ⟨rfl, rfl⟩, wq_B.of ht hP9 hD9⟩, hS.F ht⟩) hS.2.2 dX16_cost_80
def vs_k_X16_best : List Cond := .code yX16_best cX16_best 7 (some .int) :: ([.fieldLink RX16 65 "AnswerFoldModel" "thrown" "I", .fieldLink RX16 84 "AnswerFoldModel" "isWalked" "Z", .methodLink RX16 87 yX16_fails, .instanceMethod yX16_fails, .selects RX16 yX16_fails yX16_fails, .initialized RX16] ++ (u_ws RX16 TX16 26 ++ (vs_k_X16_fails_1_1)))
theorem iv_k_X16_best_X16 : ∀ w ∈ u_ws RX16 TX16 26, w ∈ vs_k_X16_best := (fun _ h => List.mem_cons_of_mem _ (List.mem_append_right _ (List.mem_append_left _ h)))
set_option maxRecDepth 20000 in
theorem gv_k_X16_best_0 : GoodIn vs_k_X16_best (wsV RX16 87 RX16 yX16_fails vs_k_X16_fails_1_1) := goodIn_app (goodIn_sub (by decide +kernel) (by decide +kernel)) (goodIn_sub (fun _ h => List.mem_cons_of_mem _ (List.mem_append_right _ (List.mem_append_right _ (h)))) (by decide +kernel))
set_option maxHeartbeats 4000000 in
set_option maxRecDepth 100000 in
theorem k_X16_best (l : Launch) (D : va_G) (ty : Nat → ClassId) (td mi sz : Nat) (m0 : Nat) (m1 : Nat) (m2 : Nat) (m3 : Nat) (m4 : Nat) (m5 : Nat) (m6 : Nat) (m7 : Nat) (m8 : Nat) (m9 : Nat) (m10 : Nat) (m11 : Nat) (m12 : Nat) (m13 : Nat) (m14 : Nat) (m15 : Nat) (m16 : Nat) : Met l yX16_best vs_k_X16_best { frames := 1, cells := 0, slots := 0, locals := 22 } (va_Pc [.ref m0] (wq_P D ty td mi [(m0, .inr (20, [.int 0, .int 0, .ref m1, .ref m2, .ref m3, .int 0, .ref m4, .ref m5, .ref m6, .int 0, .ref m7, .ref m8, .ref m9, .int 0, .ref m10, .int 0, .ref m11, .ref m12, .ref m13, .int 0, .ref m14, .int 0, .int 0, .int 0, .ref m15, .ref m16]))] sz)) (va_Qi (fun (r : Int32) (u : va_W) => (r = 0 ∧ (u = [(m0, .inr (20, [.int 1, .int 0, .ref m1, .ref m2, .ref m3, .int 0, .ref m4, .ref m5, .ref m6, .int 0, .ref m7, .ref m8, .ref m9, .int 0, .ref m10, .int 0, .ref m11, .ref m12, .ref m13, .int 0, .ref m14, .int 0, .int 0, .int 0, .ref m15, .ref m16]))]))) (wq_B D (va_A [(m0, .inr (20, [.int 0, .int 0, .ref m1, .ref m2, .ref m3, .int 0, .ref m4, .ref m5, .ref m6, .int 0, .ref m7, .ref m8, .ref m9, .int 0, .ref m10, .int 0, .ref m11, .ref m12, .ref m13, .int 0, .ref m14, .int 0, .int 0, .int 0, .ref m15, .ref m16]))] sz)) (va_A [(m0, .inr (20, [.int 0, .int 0, .ref m1, .ref m2, .ref m3, .int 0, .ref m4, .ref m5, .ref m6, .int 0, .ref m7, .ref m8, .ref m9, .int 0, .ref m10, .int 0, .ref m11, .ref m12, .ref m13, .int 0, .ref m14, .int 0, .int 0, .int 0, .ref m15, .ref m16]))] sz)) 0 0 (va_A [(m0, .inr (20, [.int 0, .int 0, .ref m1, .ref m2, .ref m3, .int 0, .ref m4, .ref m5, .ref m6, .int 0, .ref m7, .ref m8, .ref m9, .int 0, .ref m10, .int 0, .ref m11, .ref m12, .ref m13, .int 0, .ref m14, .int 0, .int 0, .int 0, .ref m15, .ref m16]))] sz) := by
  refine Met.ofW (cc := cX16_best) (maxL := 7) (ret := (some .int)) (by decide) rfl ?_
  intro p e s m args below meth c s₁ B hml hv
  obtain ⟨rfl, hsz, hP, hK, hD0, hE⟩ := hv
  have hx := B.exec
  have hb := B.bytes
  have hr := B.returns
  have hts := atoms_spec (ws := vs_k_X16_best) B.pre
  have hown : s.vm.findClass RX16 = some m.cls := findClass_of_methodNamed B.named
  have hlocks := B.notSynchronized
  subst hsz
  have hD := hD0.self (sz := s.heap.size)
  generalize hAe : va_A [(m0, .inr (20, [.int 0, .int 0, .ref m1, .ref m2, .ref m3, .int 0, .ref m4, .ref m5, .ref m6, .int 0, .ref m7, .ref m8, .ref m9, .int 0, .ref m10, .int 0, .ref m11, .ref m12, .ref m13, .int 0, .ref m14, .int 0, .int 0, .int 0, .ref m15, .ref m16]))] s.heap.size = A at hD hE ⊢
  have hA : ∀ q : Nat, s.heap.size ≤ q → A q := fun q h => by rw [← hAe]; exact Or.inr h
  have hS : va_S A s.heap s.heap [] := va_S.rf
  have hP : va_P D vwCl [(m0, .inr (20, [.int 0, .int 0, .ref m1, .ref m2, .ref m3, .int 0, .ref m4, .ref m5, .ref m6, .int 0, .ref m7, .ref m8, .ref m9, .int 0, .ref m10, .int 0, .ref m11, .ref m12, .ref m13, .int 0, .ref m14, .int 0, .int 0, .int 0, .ref m15, .ref m16]))] s.heap := hP
  have hl := lv_entry ([.ref m0]) (n := 7) (Nat.le_of_ble_eq_true rfl)
  rw [lg_entry_eq]
  generalize (lg_sl ([.ref m0]) ++ List.replicate (7 - (lg_sl ([.ref m0])).length) Slot.unset).toArray = ls at hl ⊢
  have hl : lv_has ls 7 [(0, .ref m0)] := hl
  refine lv_aload_n hx hb dX16_best_0 rfl (lv_at hl 0 rfl) ?_
  refine lv_iconst (v := 0) hx hb dX16_best_1 (by decide) ?_
  refine va_put (D := D) (ci := 20) (v := .int 0) (ty := tyX16 0) (C := RX16) (T := TX16) (N := 26) hx hb hts iv_k_X16_best_X16 tyX16 tyX16_ok nmX16 hown hK hP hD hS 0 rfl rfl 0 (by decide) (hts (.fieldLink RX16 65 "AnswerFoldModel" "thrown" "I") (by decide +kernel)) (fun _ h9 => h9) rfl (by decide +kernel) rfl rfl (Nat.le_of_ble_eq_true rfl) dX16_best_2 (fun H locs hP hD hS => ?_)
  have hP : va_P D vwCl [(m0, .inr (20, [.int 0, .int 0, .ref m1, .ref m2, .ref m3, .int 0, .ref m4, .ref m5, .ref m6, .int 0, .ref m7, .ref m8, .ref m9, .int 0, .ref m10, .int 0, .ref m11, .ref m12, .ref m13, .int 0, .ref m14, .int 0, .int 0, .int 0, .ref m15, .ref m16]))] H := hP
  have hD : va_D A [(m0, .inr (20, [.int 0, .int 0, .ref m1, .ref m2, .ref m3, .int 0, .ref m4, .ref m5, .ref m6, .int 0, .ref m7, .ref m8, .ref m9, .int 0, .ref m10, .int 0, .ref m11, .ref m12, .ref m13, .int 0, .ref m14, .int 0, .int 0, .int 0, .ref m15, .ref m16]))] := hD
  refine lv_aload_n hx hb dX16_best_5 rfl (lv_at hl 0 rfl) ?_
  refine lv_aload_n hx hb dX16_best_6 rfl (lv_at hl 0 rfl) ?_
  refine va_get (D := D) (ci := 20) (v := .int 0) (C := RX16) (T := TX16) (N := 26) hx hb hts iv_k_X16_best_X16 hown hK hP 0 rfl rfl 23 (by decide) (hts (.fieldLink RX16 84 "AnswerFoldModel" "isWalked" "Z") (by decide +kernel)) (fun _ h9 => h9) rfl dX16_best_7 ?_
  refine lv_if_ne (tgt := 17) hx hb dX16_best_10 (by decide) (fun c0 => absurd (by decide) c0) (fun _ => ?_)
  refine lv_iconst (v := 1) hx hb dX16_best_13 (by decide) ?_
  refine lv_goto (tgt := 18) hx hb dX16_best_14 (by decide) ?_
  refine lv_iconst (v := 1) hx hb dX16_best_18 (by decide) ?_
  refine wq_i (wc := [(m0, .inr (20, [.int 0, .int 0, .ref m1, .ref m2, .ref m3, .int 0, .ref m4, .ref m5, .ref m6, .int 0, .ref m7, .ref m8, .ref m9, .int 0, .ref m10, .int 0, .ref m11, .ref m12, .ref m13, .int 0, .ref m14, .int 0, .int 0, .int 0, .ref m15, .ref m16]))]) (wr := []) (va_runV (As := [.int 1, .int 1]) (rest := []) ⟨hx, hb, hml, hown, hts⟩ (k_X16_fails_1_1 l D ty td mi H.size m0 m1 m2 m3 m4 m5 m6 m7 m8 m9 m10 m11 m12 m13 m14 m15 m16 0) (cwV 2 hts gv_k_X16_best_0 rfl rfl rfl (by decide +kernel) ⟨(Nat.le_of_ble_eq_true rfl), (Nat.le_of_ble_eq_true rfl)⟩) (wq_preV hP hD hK hE hS hA [0] rfl (by decide) 0 20 rfl rfl) rfl rfl hl.1 rfl (lv_room (Nat.le_of_ble_eq_true rfl)) dX16_best_19 ⟨(Nat.le_of_ble_eq_true rfl), (Nat.le_of_ble_eq_true rfl)⟩) hS hA hP hD [0] [] rfl rfl (by decide) (by decide) (fun r u H locs hw hP hD hS => ?_)
  obtain ⟨rfl, rfl⟩ := hw
  have hP : va_P D vwCl [(m0, .inr (20, [.int 1, .int 0, .ref m1, .ref m2, .ref m3, .int 0, .ref m4, .ref m5, .ref m6, .int 0, .ref m7, .ref m8, .ref m9, .int 0, .ref m10, .int 0, .ref m11, .ref m12, .ref m13, .int 0, .ref m14, .int 0, .int 0, .int 0, .ref m15, .ref m16]))] H := hP
  have hD : va_D A [(m0, .inr (20, [.int 1, .int 0, .ref m1, .ref m2, .ref m3, .int 0, .ref m4, .ref m5, .ref m6, .int 0, .ref m7, .ref m8, .ref m9, .int 0, .ref m10, .int 0, .ref m11, .ref m12, .ref m13, .int 0, .ref m14, .int 0, .int 0, .int 0, .ref m15, .ref m16]))] := hD
  refine W.widen (k := 0) (n := 0) (Nat.le_of_ble_eq_true rfl) (Nat.le_of_ble_eq_true rfl) ?_
  refine lv_if_eq (tgt := 27) hx hb dX16_best_22 (by decide) (fun c0 => absurd c0 (by decide)) (fun _ => ?_)
  refine lv_iconst (v := 0) hx hb dX16_best_25 (by decide) ?_
  have hP9 := hP.sub (ws' := [(m0, .inr (20, [.int 1, .int 0, .ref m1, .ref m2, .ref m3, .int 0, .ref m4, .ref m5, .ref m6, .int 0, .ref m7, .ref m8, .ref m9, .int 0, .ref m10, .int 0, .ref m11, .ref m12, .ref m13, .int 0, .ref m14, .int 0, .int 0, .int 0, .ref m15, .ref m16]))]) [0] rfl
  have hD9 := hD.sub (ws' := [(m0, .inr (20, [.int 1, .int 0, .ref m1, .ref m2, .ref m3, .int 0, .ref m4, .ref m5, .ref m6, .int 0, .ref m7, .ref m8, .ref m9, .int 0, .ref m10, .int 0, .ref m11, .ref m12, .ref m13, .int 0, .ref m14, .int 0, .int 0, .int 0, .ref m15, .ref m16]))]) [0] (by decide) rfl
  refine W.widen (k := 0) (n := 0) (Nat.le_of_ble_eq_true rfl) (Nat.le_of_ble_eq_true rfl) ?_
  exact W.iret (v := 0) hx hb hr (fun t ht hW => ⟨⟨0, [(m0, .inr (20, [.int 1, .int 0, .ref m1, .ref m2, .ref m3, .int 0, .ref m4, .ref m5, .ref m6, .int 0, .ref m7, .ref m8, .ref m9, .int 0, .ref m10, .int 0, .ref m11, .ref m12, .ref m13, .int 0, .ref m14, .int 0, .int 0, .int 0, .ref m15, .ref m16]))], rfl, ⟨rfl, rfl⟩, wq_B.of ht hP9 hD9⟩, hS.F ht⟩) hS.2.2 dX16_best_26
def vs_k_X16_projected : List Cond := .code yX16_projected cX16_projected 7 (some .int) :: ([.fieldLink RX16 65 "AnswerFoldModel" "thrown" "I", .fieldLink RX16 84 "AnswerFoldModel" "isWalked" "Z", .methodLink RX16 87 yX16_fails, .instanceMethod yX16_fails, .selects RX16 yX16_fails yX16_fails, .initialized RX16] ++ (u_ws RX16 TX16 26 ++ (vs_k_X16_fails_1_1)))
theorem iv_k_X16_projected_X16 : ∀ w ∈ u_ws RX16 TX16 26, w ∈ vs_k_X16_projected := (fun _ h => List.mem_cons_of_mem _ (List.mem_append_right _ (List.mem_append_left _ h)))
set_option maxRecDepth 20000 in
theorem gv_k_X16_projected_0 : GoodIn vs_k_X16_projected (wsV RX16 87 RX16 yX16_fails vs_k_X16_fails_1_1) := goodIn_app (goodIn_sub (by decide +kernel) (by decide +kernel)) (goodIn_sub (fun _ h => List.mem_cons_of_mem _ (List.mem_append_right _ (List.mem_append_right _ (h)))) (by decide +kernel))
set_option maxHeartbeats 4000000 in
set_option maxRecDepth 100000 in
theorem k_X16_projected (l : Launch) (D : va_G) (ty : Nat → ClassId) (td mi sz : Nat) (m0 : Nat) (m1 : Nat) (m2 : Nat) (m3 : Nat) (m4 : Nat) (m5 : Nat) (m6 : Nat) (m7 : Nat) (m8 : Nat) (m9 : Nat) (m10 : Nat) (m11 : Nat) (m12 : Nat) (m13 : Nat) (m14 : Nat) (m15 : Nat) (m16 : Nat) (k1 : Int32) : Met l yX16_projected vs_k_X16_projected { frames := 1, cells := 0, slots := 0, locals := 22 } (va_Pc [.ref m0, .int k1] (wq_P D ty td mi [(m0, .inr (20, [.int 0, .int 0, .ref m1, .ref m2, .ref m3, .int 0, .ref m4, .ref m5, .ref m6, .int 0, .ref m7, .ref m8, .ref m9, .int 0, .ref m10, .int 0, .ref m11, .ref m12, .ref m13, .int 0, .ref m14, .int 0, .int 0, .int 0, .ref m15, .ref m16]))] sz)) (va_Qi (fun (r : Int32) (u : va_W) => (r = 0 ∧ (u = [(m0, .inr (20, [.int 1, .int 0, .ref m1, .ref m2, .ref m3, .int 0, .ref m4, .ref m5, .ref m6, .int 0, .ref m7, .ref m8, .ref m9, .int 0, .ref m10, .int 0, .ref m11, .ref m12, .ref m13, .int 0, .ref m14, .int 0, .int 0, .int 0, .ref m15, .ref m16]))]))) (wq_B D (va_A [(m0, .inr (20, [.int 0, .int 0, .ref m1, .ref m2, .ref m3, .int 0, .ref m4, .ref m5, .ref m6, .int 0, .ref m7, .ref m8, .ref m9, .int 0, .ref m10, .int 0, .ref m11, .ref m12, .ref m13, .int 0, .ref m14, .int 0, .int 0, .int 0, .ref m15, .ref m16]))] sz)) (va_A [(m0, .inr (20, [.int 0, .int 0, .ref m1, .ref m2, .ref m3, .int 0, .ref m4, .ref m5, .ref m6, .int 0, .ref m7, .ref m8, .ref m9, .int 0, .ref m10, .int 0, .ref m11, .ref m12, .ref m13, .int 0, .ref m14, .int 0, .int 0, .int 0, .ref m15, .ref m16]))] sz)) 0 0 (va_A [(m0, .inr (20, [.int 0, .int 0, .ref m1, .ref m2, .ref m3, .int 0, .ref m4, .ref m5, .ref m6, .int 0, .ref m7, .ref m8, .ref m9, .int 0, .ref m10, .int 0, .ref m11, .ref m12, .ref m13, .int 0, .ref m14, .int 0, .int 0, .int 0, .ref m15, .ref m16]))] sz) := by
  refine Met.ofW (cc := cX16_projected) (maxL := 7) (ret := (some .int)) (by decide) rfl ?_
  intro p e s m args below meth c s₁ B hml hv
  obtain ⟨rfl, hsz, hP, hK, hD0, hE⟩ := hv
  have hx := B.exec
  have hb := B.bytes
  have hr := B.returns
  have hts := atoms_spec (ws := vs_k_X16_projected) B.pre
  have hown : s.vm.findClass RX16 = some m.cls := findClass_of_methodNamed B.named
  have hlocks := B.notSynchronized
  subst hsz
  have hD := hD0.self (sz := s.heap.size)
  generalize hAe : va_A [(m0, .inr (20, [.int 0, .int 0, .ref m1, .ref m2, .ref m3, .int 0, .ref m4, .ref m5, .ref m6, .int 0, .ref m7, .ref m8, .ref m9, .int 0, .ref m10, .int 0, .ref m11, .ref m12, .ref m13, .int 0, .ref m14, .int 0, .int 0, .int 0, .ref m15, .ref m16]))] s.heap.size = A at hD hE ⊢
  have hA : ∀ q : Nat, s.heap.size ≤ q → A q := fun q h => by rw [← hAe]; exact Or.inr h
  have hS : va_S A s.heap s.heap [] := va_S.rf
  have hP : va_P D vwCl [(m0, .inr (20, [.int 0, .int 0, .ref m1, .ref m2, .ref m3, .int 0, .ref m4, .ref m5, .ref m6, .int 0, .ref m7, .ref m8, .ref m9, .int 0, .ref m10, .int 0, .ref m11, .ref m12, .ref m13, .int 0, .ref m14, .int 0, .int 0, .int 0, .ref m15, .ref m16]))] s.heap := hP
  have hl := lv_entry ([.ref m0, .int k1]) (n := 7) (Nat.le_of_ble_eq_true rfl)
  rw [lg_entry_eq]
  generalize (lg_sl ([.ref m0, .int k1]) ++ List.replicate (7 - (lg_sl ([.ref m0, .int k1])).length) Slot.unset).toArray = ls at hl ⊢
  have hl : lv_has ls 7 [(0, .ref m0), (1, .int k1)] := hl
  refine lv_aload_n hx hb dX16_projected_0 rfl (lv_at hl 0 rfl) ?_
  refine lv_iconst (v := 0) hx hb dX16_projected_1 (by decide) ?_
  refine va_put (D := D) (ci := 20) (v := .int 0) (ty := tyX16 0) (C := RX16) (T := TX16) (N := 26) hx hb hts iv_k_X16_projected_X16 tyX16 tyX16_ok nmX16 hown hK hP hD hS 0 rfl rfl 0 (by decide) (hts (.fieldLink RX16 65 "AnswerFoldModel" "thrown" "I") (by decide +kernel)) (fun _ h9 => h9) rfl (by decide +kernel) rfl rfl (Nat.le_of_ble_eq_true rfl) dX16_projected_2 (fun H locs hP hD hS => ?_)
  have hP : va_P D vwCl [(m0, .inr (20, [.int 0, .int 0, .ref m1, .ref m2, .ref m3, .int 0, .ref m4, .ref m5, .ref m6, .int 0, .ref m7, .ref m8, .ref m9, .int 0, .ref m10, .int 0, .ref m11, .ref m12, .ref m13, .int 0, .ref m14, .int 0, .int 0, .int 0, .ref m15, .ref m16]))] H := hP
  have hD : va_D A [(m0, .inr (20, [.int 0, .int 0, .ref m1, .ref m2, .ref m3, .int 0, .ref m4, .ref m5, .ref m6, .int 0, .ref m7, .ref m8, .ref m9, .int 0, .ref m10, .int 0, .ref m11, .ref m12, .ref m13, .int 0, .ref m14, .int 0, .int 0, .int 0, .ref m15, .ref m16]))] := hD
  refine lv_aload_n hx hb dX16_projected_5 rfl (lv_at hl 0 rfl) ?_
  refine lv_aload_n hx hb dX16_projected_6 rfl (lv_at hl 0 rfl) ?_
  refine va_get (D := D) (ci := 20) (v := .int 0) (C := RX16) (T := TX16) (N := 26) hx hb hts iv_k_X16_projected_X16 hown hK hP 0 rfl rfl 23 (by decide) (hts (.fieldLink RX16 84 "AnswerFoldModel" "isWalked" "Z") (by decide +kernel)) (fun _ h9 => h9) rfl dX16_projected_7 ?_
  refine lv_if_ne (tgt := 17) hx hb dX16_projected_10 (by decide) (fun c0 => absurd (by decide) c0) (fun _ => ?_)
  refine lv_iconst (v := 1) hx hb dX16_projected_13 (by decide) ?_
  refine lv_goto (tgt := 18) hx hb dX16_projected_14 (by decide) ?_
  refine lv_iconst (v := 1) hx hb dX16_projected_18 (by decide) ?_
  refine wq_i (wc := [(m0, .inr (20, [.int 0, .int 0, .ref m1, .ref m2, .ref m3, .int 0, .ref m4, .ref m5, .ref m6, .int 0, .ref m7, .ref m8, .ref m9, .int 0, .ref m10, .int 0, .ref m11, .ref m12, .ref m13, .int 0, .ref m14, .int 0, .int 0, .int 0, .ref m15, .ref m16]))]) (wr := []) (va_runV (As := [.int 1, .int 1]) (rest := []) ⟨hx, hb, hml, hown, hts⟩ (k_X16_fails_1_1 l D ty td mi H.size m0 m1 m2 m3 m4 m5 m6 m7 m8 m9 m10 m11 m12 m13 m14 m15 m16 0) (cwV 2 hts gv_k_X16_projected_0 rfl rfl rfl (by decide +kernel) ⟨(Nat.le_of_ble_eq_true rfl), (Nat.le_of_ble_eq_true rfl)⟩) (wq_preV hP hD hK hE hS hA [0] rfl (by decide) 0 20 rfl rfl) rfl rfl hl.1 rfl (lv_room (Nat.le_of_ble_eq_true rfl)) dX16_projected_19 ⟨(Nat.le_of_ble_eq_true rfl), (Nat.le_of_ble_eq_true rfl)⟩) hS hA hP hD [0] [] rfl rfl (by decide) (by decide) (fun r u H locs hw hP hD hS => ?_)
  obtain ⟨rfl, rfl⟩ := hw
  have hP : va_P D vwCl [(m0, .inr (20, [.int 1, .int 0, .ref m1, .ref m2, .ref m3, .int 0, .ref m4, .ref m5, .ref m6, .int 0, .ref m7, .ref m8, .ref m9, .int 0, .ref m10, .int 0, .ref m11, .ref m12, .ref m13, .int 0, .ref m14, .int 0, .int 0, .int 0, .ref m15, .ref m16]))] H := hP
  have hD : va_D A [(m0, .inr (20, [.int 1, .int 0, .ref m1, .ref m2, .ref m3, .int 0, .ref m4, .ref m5, .ref m6, .int 0, .ref m7, .ref m8, .ref m9, .int 0, .ref m10, .int 0, .ref m11, .ref m12, .ref m13, .int 0, .ref m14, .int 0, .int 0, .int 0, .ref m15, .ref m16]))] := hD
  refine W.widen (k := 0) (n := 0) (Nat.le_of_ble_eq_true rfl) (Nat.le_of_ble_eq_true rfl) ?_
  refine lv_if_ne (tgt := 38) hx hb dX16_projected_22 (by decide) (fun _ => ?_) (fun c0 => absurd c0 (by decide))
  refine lv_iconst (v := 0) hx hb dX16_projected_38 (by decide) ?_
  have hP9 := hP.sub (ws' := [(m0, .inr (20, [.int 1, .int 0, .ref m1, .ref m2, .ref m3, .int 0, .ref m4, .ref m5, .ref m6, .int 0, .ref m7, .ref m8, .ref m9, .int 0, .ref m10, .int 0, .ref m11, .ref m12, .ref m13, .int 0, .ref m14, .int 0, .int 0, .int 0, .ref m15, .ref m16]))]) [0] rfl
  have hD9 := hD.sub (ws' := [(m0, .inr (20, [.int 1, .int 0, .ref m1, .ref m2, .ref m3, .int 0, .ref m4, .ref m5, .ref m6, .int 0, .ref m7, .ref m8, .ref m9, .int 0, .ref m10, .int 0, .ref m11, .ref m12, .ref m13, .int 0, .ref m14, .int 0, .int 0, .int 0, .ref m15, .ref m16]))]) [0] (by decide) rfl
  refine W.widen (k := 0) (n := 0) (Nat.le_of_ble_eq_true rfl) (Nat.le_of_ble_eq_true rfl) ?_
  exact W.iret (v := 0) hx hb hr (fun t ht hW => ⟨⟨0, [(m0, .inr (20, [.int 1, .int 0, .ref m1, .ref m2, .ref m3, .int 0, .ref m4, .ref m5, .ref m6, .int 0, .ref m7, .ref m8, .ref m9, .int 0, .ref m10, .int 0, .ref m11, .ref m12, .ref m13, .int 0, .ref m14, .int 0, .int 0, .int 0, .ref m15, .ref m16]))], rfl, ⟨rfl, rfl⟩, wq_B.of ht hP9 hD9⟩, hS.F ht⟩) hS.2.2 dX16_projected_39
def vs_k_X16_holds_ : List Cond := .code yX16_holds_ cX16_holds_ 5 (some .char) :: ([.fieldLink RX16 65 "AnswerFoldModel" "thrown" "I", .fieldLink RX16 84 "AnswerFoldModel" "isWalked" "Z", .methodLink RX16 87 yX16_fails, .instanceMethod yX16_fails, .selects RX16 yX16_fails yX16_fails, .initialized RX16] ++ (u_ws RX16 TX16 26 ++ (vs_k_X16_fails_1_1)))
theorem iv_k_X16_holds__X16 : ∀ w ∈ u_ws RX16 TX16 26, w ∈ vs_k_X16_holds_ := (fun _ h => List.mem_cons_of_mem _ (List.mem_append_right _ (List.mem_append_left _ h)))
set_option maxRecDepth 20000 in
theorem gv_k_X16_holds__0 : GoodIn vs_k_X16_holds_ (wsV RX16 87 RX16 yX16_fails vs_k_X16_fails_1_1) := goodIn_app (goodIn_sub (by decide +kernel) (by decide +kernel)) (goodIn_sub (fun _ h => List.mem_cons_of_mem _ (List.mem_append_right _ (List.mem_append_right _ (h)))) (by decide +kernel))
set_option maxHeartbeats 4000000 in
set_option maxRecDepth 100000 in
theorem k_X16_holds_ (l : Launch) (D : va_G) (ty : Nat → ClassId) (td mi sz : Nat) (m0 : Nat) (m1 : Nat) (m2 : Nat) (m3 : Nat) (m4 : Nat) (m5 : Nat) (m6 : Nat) (m7 : Nat) (m8 : Nat) (m9 : Nat) (m10 : Nat) (m11 : Nat) (m12 : Nat) (m13 : Nat) (m14 : Nat) (m15 : Nat) (m16 : Nat) (k1 : Int32) (k2 : Int32) (k3 : Int32) : Met l yX16_holds_ vs_k_X16_holds_ { frames := 1, cells := 0, slots := 0, locals := 22 } (va_Pc [.ref m0, .int k1, .int k2, .int k3] (wq_P D ty td mi [(m0, .inr (20, [.int 0, .int 0, .ref m1, .ref m2, .ref m3, .int 0, .ref m4, .ref m5, .ref m6, .int 0, .ref m7, .ref m8, .ref m9, .int 0, .ref m10, .int 0, .ref m11, .ref m12, .ref m13, .int 0, .ref m14, .int 0, .int 0, .int 0, .ref m15, .ref m16]))] sz)) (va_Qi (fun (r : Int32) (u : va_W) => (r = 0 ∧ (u = [(m0, .inr (20, [.int 1, .int 0, .ref m1, .ref m2, .ref m3, .int 0, .ref m4, .ref m5, .ref m6, .int 0, .ref m7, .ref m8, .ref m9, .int 0, .ref m10, .int 0, .ref m11, .ref m12, .ref m13, .int 0, .ref m14, .int 0, .int 0, .int 0, .ref m15, .ref m16]))]))) (wq_B D (va_A [(m0, .inr (20, [.int 0, .int 0, .ref m1, .ref m2, .ref m3, .int 0, .ref m4, .ref m5, .ref m6, .int 0, .ref m7, .ref m8, .ref m9, .int 0, .ref m10, .int 0, .ref m11, .ref m12, .ref m13, .int 0, .ref m14, .int 0, .int 0, .int 0, .ref m15, .ref m16]))] sz)) (va_A [(m0, .inr (20, [.int 0, .int 0, .ref m1, .ref m2, .ref m3, .int 0, .ref m4, .ref m5, .ref m6, .int 0, .ref m7, .ref m8, .ref m9, .int 0, .ref m10, .int 0, .ref m11, .ref m12, .ref m13, .int 0, .ref m14, .int 0, .int 0, .int 0, .ref m15, .ref m16]))] sz)) 0 0 (va_A [(m0, .inr (20, [.int 0, .int 0, .ref m1, .ref m2, .ref m3, .int 0, .ref m4, .ref m5, .ref m6, .int 0, .ref m7, .ref m8, .ref m9, .int 0, .ref m10, .int 0, .ref m11, .ref m12, .ref m13, .int 0, .ref m14, .int 0, .int 0, .int 0, .ref m15, .ref m16]))] sz) := by
  refine Met.ofW (cc := cX16_holds_) (maxL := 5) (ret := (some .char)) (by decide) rfl ?_
  intro p e s m args below meth c s₁ B hml hv
  obtain ⟨rfl, hsz, hP, hK, hD0, hE⟩ := hv
  have hx := B.exec
  have hb := B.bytes
  have hr := B.returns
  have hts := atoms_spec (ws := vs_k_X16_holds_) B.pre
  have hown : s.vm.findClass RX16 = some m.cls := findClass_of_methodNamed B.named
  have hlocks := B.notSynchronized
  subst hsz
  have hD := hD0.self (sz := s.heap.size)
  generalize hAe : va_A [(m0, .inr (20, [.int 0, .int 0, .ref m1, .ref m2, .ref m3, .int 0, .ref m4, .ref m5, .ref m6, .int 0, .ref m7, .ref m8, .ref m9, .int 0, .ref m10, .int 0, .ref m11, .ref m12, .ref m13, .int 0, .ref m14, .int 0, .int 0, .int 0, .ref m15, .ref m16]))] s.heap.size = A at hD hE ⊢
  have hA : ∀ q : Nat, s.heap.size ≤ q → A q := fun q h => by rw [← hAe]; exact Or.inr h
  have hS : va_S A s.heap s.heap [] := va_S.rf
  have hP : va_P D vwCl [(m0, .inr (20, [.int 0, .int 0, .ref m1, .ref m2, .ref m3, .int 0, .ref m4, .ref m5, .ref m6, .int 0, .ref m7, .ref m8, .ref m9, .int 0, .ref m10, .int 0, .ref m11, .ref m12, .ref m13, .int 0, .ref m14, .int 0, .int 0, .int 0, .ref m15, .ref m16]))] s.heap := hP
  have hl := lv_entry ([.ref m0, .int k1, .int k2, .int k3]) (n := 5) (Nat.le_of_ble_eq_true rfl)
  rw [lg_entry_eq]
  generalize (lg_sl ([.ref m0, .int k1, .int k2, .int k3]) ++ List.replicate (5 - (lg_sl ([.ref m0, .int k1, .int k2, .int k3])).length) Slot.unset).toArray = ls at hl ⊢
  have hl : lv_has ls 5 [(0, .ref m0), (1, .int k1), (2, .int k2), (3, .int k3)] := hl
  refine lv_aload_n hx hb dX16_holds__0 rfl (lv_at hl 0 rfl) ?_
  refine lv_iconst (v := 0) hx hb dX16_holds__1 (by decide) ?_
  refine va_put (D := D) (ci := 20) (v := .int 0) (ty := tyX16 0) (C := RX16) (T := TX16) (N := 26) hx hb hts iv_k_X16_holds__X16 tyX16 tyX16_ok nmX16 hown hK hP hD hS 0 rfl rfl 0 (by decide) (hts (.fieldLink RX16 65 "AnswerFoldModel" "thrown" "I") (by decide +kernel)) (fun _ h9 => h9) rfl (by decide +kernel) rfl rfl (Nat.le_of_ble_eq_true rfl) dX16_holds__2 (fun H locs hP hD hS => ?_)
  have hP : va_P D vwCl [(m0, .inr (20, [.int 0, .int 0, .ref m1, .ref m2, .ref m3, .int 0, .ref m4, .ref m5, .ref m6, .int 0, .ref m7, .ref m8, .ref m9, .int 0, .ref m10, .int 0, .ref m11, .ref m12, .ref m13, .int 0, .ref m14, .int 0, .int 0, .int 0, .ref m15, .ref m16]))] H := hP
  have hD : va_D A [(m0, .inr (20, [.int 0, .int 0, .ref m1, .ref m2, .ref m3, .int 0, .ref m4, .ref m5, .ref m6, .int 0, .ref m7, .ref m8, .ref m9, .int 0, .ref m10, .int 0, .ref m11, .ref m12, .ref m13, .int 0, .ref m14, .int 0, .int 0, .int 0, .ref m15, .ref m16]))] := hD
  refine lv_aload_n hx hb dX16_holds__5 rfl (lv_at hl 0 rfl) ?_
  refine lv_aload_n hx hb dX16_holds__6 rfl (lv_at hl 0 rfl) ?_
  refine va_get (D := D) (ci := 20) (v := .int 0) (C := RX16) (T := TX16) (N := 26) hx hb hts iv_k_X16_holds__X16 hown hK hP 0 rfl rfl 23 (by decide) (hts (.fieldLink RX16 84 "AnswerFoldModel" "isWalked" "Z") (by decide +kernel)) (fun _ h9 => h9) rfl dX16_holds__7 ?_
  refine lv_if_ne (tgt := 17) hx hb dX16_holds__10 (by decide) (fun c0 => absurd (by decide) c0) (fun _ => ?_)
  refine lv_iconst (v := 1) hx hb dX16_holds__13 (by decide) ?_
  refine lv_goto (tgt := 18) hx hb dX16_holds__14 (by decide) ?_
  refine lv_iconst (v := 1) hx hb dX16_holds__18 (by decide) ?_
  refine wq_i (wc := [(m0, .inr (20, [.int 0, .int 0, .ref m1, .ref m2, .ref m3, .int 0, .ref m4, .ref m5, .ref m6, .int 0, .ref m7, .ref m8, .ref m9, .int 0, .ref m10, .int 0, .ref m11, .ref m12, .ref m13, .int 0, .ref m14, .int 0, .int 0, .int 0, .ref m15, .ref m16]))]) (wr := []) (va_runV (As := [.int 1, .int 1]) (rest := []) ⟨hx, hb, hml, hown, hts⟩ (k_X16_fails_1_1 l D ty td mi H.size m0 m1 m2 m3 m4 m5 m6 m7 m8 m9 m10 m11 m12 m13 m14 m15 m16 0) (cwV 2 hts gv_k_X16_holds__0 rfl rfl rfl (by decide +kernel) ⟨(Nat.le_of_ble_eq_true rfl), (Nat.le_of_ble_eq_true rfl)⟩) (wq_preV hP hD hK hE hS hA [0] rfl (by decide) 0 20 rfl rfl) rfl rfl hl.1 rfl (lv_room (Nat.le_of_ble_eq_true rfl)) dX16_holds__19 ⟨(Nat.le_of_ble_eq_true rfl), (Nat.le_of_ble_eq_true rfl)⟩) hS hA hP hD [0] [] rfl rfl (by decide) (by decide) (fun r u H locs hw hP hD hS => ?_)
  obtain ⟨rfl, rfl⟩ := hw
  have hP : va_P D vwCl [(m0, .inr (20, [.int 1, .int 0, .ref m1, .ref m2, .ref m3, .int 0, .ref m4, .ref m5, .ref m6, .int 0, .ref m7, .ref m8, .ref m9, .int 0, .ref m10, .int 0, .ref m11, .ref m12, .ref m13, .int 0, .ref m14, .int 0, .int 0, .int 0, .ref m15, .ref m16]))] H := hP
  have hD : va_D A [(m0, .inr (20, [.int 1, .int 0, .ref m1, .ref m2, .ref m3, .int 0, .ref m4, .ref m5, .ref m6, .int 0, .ref m7, .ref m8, .ref m9, .int 0, .ref m10, .int 0, .ref m11, .ref m12, .ref m13, .int 0, .ref m14, .int 0, .int 0, .int 0, .ref m15, .ref m16]))] := hD
  refine W.widen (k := 0) (n := 0) (Nat.le_of_ble_eq_true rfl) (Nat.le_of_ble_eq_true rfl) ?_
  refine lv_if_ne (tgt := 53) hx hb dX16_holds__22 (by decide) (fun _ => ?_) (fun c0 => absurd c0 (by decide))
  refine lv_iconst (v := 0) hx hb dX16_holds__53 (by decide) ?_
  have hP9 := hP.sub (ws' := [(m0, .inr (20, [.int 1, .int 0, .ref m1, .ref m2, .ref m3, .int 0, .ref m4, .ref m5, .ref m6, .int 0, .ref m7, .ref m8, .ref m9, .int 0, .ref m10, .int 0, .ref m11, .ref m12, .ref m13, .int 0, .ref m14, .int 0, .int 0, .int 0, .ref m15, .ref m16]))]) [0] rfl
  have hD9 := hD.sub (ws' := [(m0, .inr (20, [.int 1, .int 0, .ref m1, .ref m2, .ref m3, .int 0, .ref m4, .ref m5, .ref m6, .int 0, .ref m7, .ref m8, .ref m9, .int 0, .ref m10, .int 0, .ref m11, .ref m12, .ref m13, .int 0, .ref m14, .int 0, .int 0, .int 0, .ref m15, .ref m16]))]) [0] (by decide) rfl
  refine W.widen (k := 0) (n := 0) (Nat.le_of_ble_eq_true rfl) (Nat.le_of_ble_eq_true rfl) ?_
  exact W.zret (v := 0) hx hb hr rfl (fun t ht hW => ⟨⟨0, [(m0, .inr (20, [.int 1, .int 0, .ref m1, .ref m2, .ref m3, .int 0, .ref m4, .ref m5, .ref m6, .int 0, .ref m7, .ref m8, .ref m9, .int 0, .ref m10, .int 0, .ref m11, .ref m12, .ref m13, .int 0, .ref m14, .int 0, .int 0, .int 0, .ref m15, .ref m16]))], rfl, ⟨rfl, rfl⟩, wq_B.of ht hP9 hD9⟩, hS.F ht⟩) hS.2.2 dX16_holds__54
def vs_k_X16_reason : List Cond := .code yX16_reason cX16_reason 9 (some .int) :: ([.fieldLink RX16 65 "AnswerFoldModel" "thrown" "I", .fieldLink RX16 84 "AnswerFoldModel" "isWalked" "Z", .methodLink RX16 87 yX16_fails, .instanceMethod yX16_fails, .selects RX16 yX16_fails yX16_fails, .initialized RX16] ++ (u_ws RX16 TX16 26 ++ (vs_k_X16_fails_1_1)))
theorem iv_k_X16_reason_X16 : ∀ w ∈ u_ws RX16 TX16 26, w ∈ vs_k_X16_reason := (fun _ h => List.mem_cons_of_mem _ (List.mem_append_right _ (List.mem_append_left _ h)))
set_option maxRecDepth 20000 in
theorem gv_k_X16_reason_0 : GoodIn vs_k_X16_reason (wsV RX16 87 RX16 yX16_fails vs_k_X16_fails_1_1) := goodIn_app (goodIn_sub (by decide +kernel) (by decide +kernel)) (goodIn_sub (fun _ h => List.mem_cons_of_mem _ (List.mem_append_right _ (List.mem_append_right _ (h)))) (by decide +kernel))
set_option maxHeartbeats 4000000 in
set_option maxRecDepth 100000 in
theorem k_X16_reason (l : Launch) (D : va_G) (ty : Nat → ClassId) (td mi sz : Nat) (m0 : Nat) (m1 : Nat) (m2 : Nat) (m3 : Nat) (m4 : Nat) (m5 : Nat) (m6 : Nat) (m7 : Nat) (m8 : Nat) (m9 : Nat) (m10 : Nat) (m11 : Nat) (m12 : Nat) (m13 : Nat) (m14 : Nat) (m15 : Nat) (m16 : Nat) (k1 : Int32) (k2 : Int32) (k3 : Int32) (k4 : Int32) : Met l yX16_reason vs_k_X16_reason { frames := 1, cells := 0, slots := 0, locals := 22 } (va_Pc [.ref m0, .int k1, .int k2, .int k3, .int k4] (wq_P D ty td mi [(m0, .inr (20, [.int 0, .int 0, .ref m1, .ref m2, .ref m3, .int 0, .ref m4, .ref m5, .ref m6, .int 0, .ref m7, .ref m8, .ref m9, .int 0, .ref m10, .int 0, .ref m11, .ref m12, .ref m13, .int 0, .ref m14, .int 0, .int 0, .int 0, .ref m15, .ref m16]))] sz)) (va_Qi (fun (r : Int32) (u : va_W) => (r = 0 ∧ (u = [(m0, .inr (20, [.int 1, .int 0, .ref m1, .ref m2, .ref m3, .int 0, .ref m4, .ref m5, .ref m6, .int 0, .ref m7, .ref m8, .ref m9, .int 0, .ref m10, .int 0, .ref m11, .ref m12, .ref m13, .int 0, .ref m14, .int 0, .int 0, .int 0, .ref m15, .ref m16]))]))) (wq_B D (va_A [(m0, .inr (20, [.int 0, .int 0, .ref m1, .ref m2, .ref m3, .int 0, .ref m4, .ref m5, .ref m6, .int 0, .ref m7, .ref m8, .ref m9, .int 0, .ref m10, .int 0, .ref m11, .ref m12, .ref m13, .int 0, .ref m14, .int 0, .int 0, .int 0, .ref m15, .ref m16]))] sz)) (va_A [(m0, .inr (20, [.int 0, .int 0, .ref m1, .ref m2, .ref m3, .int 0, .ref m4, .ref m5, .ref m6, .int 0, .ref m7, .ref m8, .ref m9, .int 0, .ref m10, .int 0, .ref m11, .ref m12, .ref m13, .int 0, .ref m14, .int 0, .int 0, .int 0, .ref m15, .ref m16]))] sz)) 0 0 (va_A [(m0, .inr (20, [.int 0, .int 0, .ref m1, .ref m2, .ref m3, .int 0, .ref m4, .ref m5, .ref m6, .int 0, .ref m7, .ref m8, .ref m9, .int 0, .ref m10, .int 0, .ref m11, .ref m12, .ref m13, .int 0, .ref m14, .int 0, .int 0, .int 0, .ref m15, .ref m16]))] sz) := by
  refine Met.ofW (cc := cX16_reason) (maxL := 9) (ret := (some .int)) (by decide) rfl ?_
  intro p e s m args below meth c s₁ B hml hv
  obtain ⟨rfl, hsz, hP, hK, hD0, hE⟩ := hv
  have hx := B.exec
  have hb := B.bytes
  have hr := B.returns
  have hts := atoms_spec (ws := vs_k_X16_reason) B.pre
  have hown : s.vm.findClass RX16 = some m.cls := findClass_of_methodNamed B.named
  have hlocks := B.notSynchronized
  subst hsz
  have hD := hD0.self (sz := s.heap.size)
  generalize hAe : va_A [(m0, .inr (20, [.int 0, .int 0, .ref m1, .ref m2, .ref m3, .int 0, .ref m4, .ref m5, .ref m6, .int 0, .ref m7, .ref m8, .ref m9, .int 0, .ref m10, .int 0, .ref m11, .ref m12, .ref m13, .int 0, .ref m14, .int 0, .int 0, .int 0, .ref m15, .ref m16]))] s.heap.size = A at hD hE ⊢
  have hA : ∀ q : Nat, s.heap.size ≤ q → A q := fun q h => by rw [← hAe]; exact Or.inr h
  have hS : va_S A s.heap s.heap [] := va_S.rf
  have hP : va_P D vwCl [(m0, .inr (20, [.int 0, .int 0, .ref m1, .ref m2, .ref m3, .int 0, .ref m4, .ref m5, .ref m6, .int 0, .ref m7, .ref m8, .ref m9, .int 0, .ref m10, .int 0, .ref m11, .ref m12, .ref m13, .int 0, .ref m14, .int 0, .int 0, .int 0, .ref m15, .ref m16]))] s.heap := hP
  have hl := lv_entry ([.ref m0, .int k1, .int k2, .int k3, .int k4]) (n := 9) (Nat.le_of_ble_eq_true rfl)
  rw [lg_entry_eq]
  generalize (lg_sl ([.ref m0, .int k1, .int k2, .int k3, .int k4]) ++ List.replicate (9 - (lg_sl ([.ref m0, .int k1, .int k2, .int k3, .int k4])).length) Slot.unset).toArray = ls at hl ⊢
  have hl : lv_has ls 9 [(0, .ref m0), (1, .int k1), (2, .int k2), (3, .int k3), (4, .int k4)] := hl
  refine lv_aload_n hx hb dX16_reason_0 rfl (lv_at hl 0 rfl) ?_
  refine lv_iconst (v := 0) hx hb dX16_reason_1 (by decide) ?_
  refine va_put (D := D) (ci := 20) (v := .int 0) (ty := tyX16 0) (C := RX16) (T := TX16) (N := 26) hx hb hts iv_k_X16_reason_X16 tyX16 tyX16_ok nmX16 hown hK hP hD hS 0 rfl rfl 0 (by decide) (hts (.fieldLink RX16 65 "AnswerFoldModel" "thrown" "I") (by decide +kernel)) (fun _ h9 => h9) rfl (by decide +kernel) rfl rfl (Nat.le_of_ble_eq_true rfl) dX16_reason_2 (fun H locs hP hD hS => ?_)
  have hP : va_P D vwCl [(m0, .inr (20, [.int 0, .int 0, .ref m1, .ref m2, .ref m3, .int 0, .ref m4, .ref m5, .ref m6, .int 0, .ref m7, .ref m8, .ref m9, .int 0, .ref m10, .int 0, .ref m11, .ref m12, .ref m13, .int 0, .ref m14, .int 0, .int 0, .int 0, .ref m15, .ref m16]))] H := hP
  have hD : va_D A [(m0, .inr (20, [.int 0, .int 0, .ref m1, .ref m2, .ref m3, .int 0, .ref m4, .ref m5, .ref m6, .int 0, .ref m7, .ref m8, .ref m9, .int 0, .ref m10, .int 0, .ref m11, .ref m12, .ref m13, .int 0, .ref m14, .int 0, .int 0, .int 0, .ref m15, .ref m16]))] := hD
  refine lv_aload_n hx hb dX16_reason_5 rfl (lv_at hl 0 rfl) ?_
  refine lv_aload_n hx hb dX16_reason_6 rfl (lv_at hl 0 rfl) ?_
  refine va_get (D := D) (ci := 20) (v := .int 0) (C := RX16) (T := TX16) (N := 26) hx hb hts iv_k_X16_reason_X16 hown hK hP 0 rfl rfl 23 (by decide) (hts (.fieldLink RX16 84 "AnswerFoldModel" "isWalked" "Z") (by decide +kernel)) (fun _ h9 => h9) rfl dX16_reason_7 ?_
  refine lv_if_ne (tgt := 17) hx hb dX16_reason_10 (by decide) (fun c0 => absurd (by decide) c0) (fun _ => ?_)
  refine lv_iconst (v := 1) hx hb dX16_reason_13 (by decide) ?_
  refine lv_goto (tgt := 18) hx hb dX16_reason_14 (by decide) ?_
  refine lv_iconst (v := 1) hx hb dX16_reason_18 (by decide) ?_
  refine wq_i (wc := [(m0, .inr (20, [.int 0, .int 0, .ref m1, .ref m2, .ref m3, .int 0, .ref m4, .ref m5, .ref m6, .int 0, .ref m7, .ref m8, .ref m9, .int 0, .ref m10, .int 0, .ref m11, .ref m12, .ref m13, .int 0, .ref m14, .int 0, .int 0, .int 0, .ref m15, .ref m16]))]) (wr := []) (va_runV (As := [.int 1, .int 1]) (rest := []) ⟨hx, hb, hml, hown, hts⟩ (k_X16_fails_1_1 l D ty td mi H.size m0 m1 m2 m3 m4 m5 m6 m7 m8 m9 m10 m11 m12 m13 m14 m15 m16 0) (cwV 2 hts gv_k_X16_reason_0 rfl rfl rfl (by decide +kernel) ⟨(Nat.le_of_ble_eq_true rfl), (Nat.le_of_ble_eq_true rfl)⟩) (wq_preV hP hD hK hE hS hA [0] rfl (by decide) 0 20 rfl rfl) rfl rfl hl.1 rfl (lv_room (Nat.le_of_ble_eq_true rfl)) dX16_reason_19 ⟨(Nat.le_of_ble_eq_true rfl), (Nat.le_of_ble_eq_true rfl)⟩) hS hA hP hD [0] [] rfl rfl (by decide) (by decide) (fun r u H locs hw hP hD hS => ?_)
  obtain ⟨rfl, rfl⟩ := hw
  have hP : va_P D vwCl [(m0, .inr (20, [.int 1, .int 0, .ref m1, .ref m2, .ref m3, .int 0, .ref m4, .ref m5, .ref m6, .int 0, .ref m7, .ref m8, .ref m9, .int 0, .ref m10, .int 0, .ref m11, .ref m12, .ref m13, .int 0, .ref m14, .int 0, .int 0, .int 0, .ref m15, .ref m16]))] H := hP
  have hD : va_D A [(m0, .inr (20, [.int 1, .int 0, .ref m1, .ref m2, .ref m3, .int 0, .ref m4, .ref m5, .ref m6, .int 0, .ref m7, .ref m8, .ref m9, .int 0, .ref m10, .int 0, .ref m11, .ref m12, .ref m13, .int 0, .ref m14, .int 0, .int 0, .int 0, .ref m15, .ref m16]))] := hD
  refine W.widen (k := 0) (n := 0) (Nat.le_of_ble_eq_true rfl) (Nat.le_of_ble_eq_true rfl) ?_
  refine lv_if_ne (tgt := 70) hx hb dX16_reason_22 (by decide) (fun _ => ?_) (fun c0 => absurd c0 (by decide))
  refine lv_iconst (v := 0) hx hb dX16_reason_70 (by decide) ?_
  have hP9 := hP.sub (ws' := [(m0, .inr (20, [.int 1, .int 0, .ref m1, .ref m2, .ref m3, .int 0, .ref m4, .ref m5, .ref m6, .int 0, .ref m7, .ref m8, .ref m9, .int 0, .ref m10, .int 0, .ref m11, .ref m12, .ref m13, .int 0, .ref m14, .int 0, .int 0, .int 0, .ref m15, .ref m16]))]) [0] rfl
  have hD9 := hD.sub (ws' := [(m0, .inr (20, [.int 1, .int 0, .ref m1, .ref m2, .ref m3, .int 0, .ref m4, .ref m5, .ref m6, .int 0, .ref m7, .ref m8, .ref m9, .int 0, .ref m10, .int 0, .ref m11, .ref m12, .ref m13, .int 0, .ref m14, .int 0, .int 0, .int 0, .ref m15, .ref m16]))]) [0] (by decide) rfl
  refine W.widen (k := 0) (n := 0) (Nat.le_of_ble_eq_true rfl) (Nat.le_of_ble_eq_true rfl) ?_
  exact W.iret (v := 0) hx hb hr (fun t ht hW => ⟨⟨0, [(m0, .inr (20, [.int 1, .int 0, .ref m1, .ref m2, .ref m3, .int 0, .ref m4, .ref m5, .ref m6, .int 0, .ref m7, .ref m8, .ref m9, .int 0, .ref m10, .int 0, .ref m11, .ref m12, .ref m13, .int 0, .ref m14, .int 0, .int 0, .int 0, .ref m15, .ref m16]))], rfl, ⟨rfl, rfl⟩, wq_B.of ht hP9 hD9⟩, hS.F ht⟩) hS.2.2 dX16_reason_71
def vs_k_X16_share : List Cond := .code yX16_share cX16_share 4 (some .float) :: ([.fieldLink RX16 65 "AnswerFoldModel" "thrown" "I", .fieldLink RX16 84 "AnswerFoldModel" "isWalked" "Z", .methodLink RX16 87 yX16_fails, .instanceMethod yX16_fails, .selects RX16 yX16_fails yX16_fails, .initialized RX16] ++ (u_ws RX16 TX16 26 ++ (vs_k_X16_fails_1_1)))
theorem iv_k_X16_share_X16 : ∀ w ∈ u_ws RX16 TX16 26, w ∈ vs_k_X16_share := (fun _ h => List.mem_cons_of_mem _ (List.mem_append_right _ (List.mem_append_left _ h)))
set_option maxRecDepth 20000 in
theorem gv_k_X16_share_0 : GoodIn vs_k_X16_share (wsV RX16 87 RX16 yX16_fails vs_k_X16_fails_1_1) := goodIn_app (goodIn_sub (by decide +kernel) (by decide +kernel)) (goodIn_sub (fun _ h => List.mem_cons_of_mem _ (List.mem_append_right _ (List.mem_append_right _ (h)))) (by decide +kernel))
set_option maxHeartbeats 4000000 in
set_option maxRecDepth 100000 in
theorem k_X16_share (l : Launch) (D : va_G) (ty : Nat → ClassId) (td mi sz : Nat) (m0 : Nat) (m1 : Nat) (m2 : Nat) (m3 : Nat) (m4 : Nat) (m5 : Nat) (m6 : Nat) (m7 : Nat) (m8 : Nat) (m9 : Nat) (m10 : Nat) (m11 : Nat) (m12 : Nat) (m13 : Nat) (m14 : Nat) (m15 : Nat) (m16 : Nat) (k1 : Int32) (k2 : Int32) (k3 : Int32) : Met l yX16_share vs_k_X16_share { frames := 1, cells := 0, slots := 0, locals := 22 } (va_Pc [.ref m0, .int k1, .int k2, .int k3] (wq_P D ty td mi [(m0, .inr (20, [.int 0, .int 0, .ref m1, .ref m2, .ref m3, .int 0, .ref m4, .ref m5, .ref m6, .int 0, .ref m7, .ref m8, .ref m9, .int 0, .ref m10, .int 0, .ref m11, .ref m12, .ref m13, .int 0, .ref m14, .int 0, .int 0, .int 0, .ref m15, .ref m16]))] sz)) (va_Qf (fun (r : UInt32) (u : va_W) => (r = FP.fconst0 ∧ (u = [(m0, .inr (20, [.int 1, .int 0, .ref m1, .ref m2, .ref m3, .int 0, .ref m4, .ref m5, .ref m6, .int 0, .ref m7, .ref m8, .ref m9, .int 0, .ref m10, .int 0, .ref m11, .ref m12, .ref m13, .int 0, .ref m14, .int 0, .int 0, .int 0, .ref m15, .ref m16]))]))) (wq_B D (va_A [(m0, .inr (20, [.int 0, .int 0, .ref m1, .ref m2, .ref m3, .int 0, .ref m4, .ref m5, .ref m6, .int 0, .ref m7, .ref m8, .ref m9, .int 0, .ref m10, .int 0, .ref m11, .ref m12, .ref m13, .int 0, .ref m14, .int 0, .int 0, .int 0, .ref m15, .ref m16]))] sz)) (va_A [(m0, .inr (20, [.int 0, .int 0, .ref m1, .ref m2, .ref m3, .int 0, .ref m4, .ref m5, .ref m6, .int 0, .ref m7, .ref m8, .ref m9, .int 0, .ref m10, .int 0, .ref m11, .ref m12, .ref m13, .int 0, .ref m14, .int 0, .int 0, .int 0, .ref m15, .ref m16]))] sz)) 0 0 (va_A [(m0, .inr (20, [.int 0, .int 0, .ref m1, .ref m2, .ref m3, .int 0, .ref m4, .ref m5, .ref m6, .int 0, .ref m7, .ref m8, .ref m9, .int 0, .ref m10, .int 0, .ref m11, .ref m12, .ref m13, .int 0, .ref m14, .int 0, .int 0, .int 0, .ref m15, .ref m16]))] sz) := by
  refine Met.ofW (cc := cX16_share) (maxL := 4) (ret := (some .float)) (by decide) rfl ?_
  intro p e s m args below meth c s₁ B hml hv
  obtain ⟨rfl, hsz, hP, hK, hD0, hE⟩ := hv
  have hx := B.exec
  have hb := B.bytes
  have hr := B.returns
  have hts := atoms_spec (ws := vs_k_X16_share) B.pre
  have hown : s.vm.findClass RX16 = some m.cls := findClass_of_methodNamed B.named
  have hlocks := B.notSynchronized
  subst hsz
  have hD := hD0.self (sz := s.heap.size)
  generalize hAe : va_A [(m0, .inr (20, [.int 0, .int 0, .ref m1, .ref m2, .ref m3, .int 0, .ref m4, .ref m5, .ref m6, .int 0, .ref m7, .ref m8, .ref m9, .int 0, .ref m10, .int 0, .ref m11, .ref m12, .ref m13, .int 0, .ref m14, .int 0, .int 0, .int 0, .ref m15, .ref m16]))] s.heap.size = A at hD hE ⊢
  have hA : ∀ q : Nat, s.heap.size ≤ q → A q := fun q h => by rw [← hAe]; exact Or.inr h
  have hS : va_S A s.heap s.heap [] := va_S.rf
  have hP : va_P D vwCl [(m0, .inr (20, [.int 0, .int 0, .ref m1, .ref m2, .ref m3, .int 0, .ref m4, .ref m5, .ref m6, .int 0, .ref m7, .ref m8, .ref m9, .int 0, .ref m10, .int 0, .ref m11, .ref m12, .ref m13, .int 0, .ref m14, .int 0, .int 0, .int 0, .ref m15, .ref m16]))] s.heap := hP
  have hl := lv_entry ([.ref m0, .int k1, .int k2, .int k3]) (n := 4) (Nat.le_of_ble_eq_true rfl)
  rw [lg_entry_eq]
  generalize (lg_sl ([.ref m0, .int k1, .int k2, .int k3]) ++ List.replicate (4 - (lg_sl ([.ref m0, .int k1, .int k2, .int k3])).length) Slot.unset).toArray = ls at hl ⊢
  have hl : lv_has ls 4 [(0, .ref m0), (1, .int k1), (2, .int k2), (3, .int k3)] := hl
  refine lv_aload_n hx hb dX16_share_0 rfl (lv_at hl 0 rfl) ?_
  refine lv_iconst (v := 0) hx hb dX16_share_1 (by decide) ?_
  refine va_put (D := D) (ci := 20) (v := .int 0) (ty := tyX16 0) (C := RX16) (T := TX16) (N := 26) hx hb hts iv_k_X16_share_X16 tyX16 tyX16_ok nmX16 hown hK hP hD hS 0 rfl rfl 0 (by decide) (hts (.fieldLink RX16 65 "AnswerFoldModel" "thrown" "I") (by decide +kernel)) (fun _ h9 => h9) rfl (by decide +kernel) rfl rfl (Nat.le_of_ble_eq_true rfl) dX16_share_2 (fun H locs hP hD hS => ?_)
  have hP : va_P D vwCl [(m0, .inr (20, [.int 0, .int 0, .ref m1, .ref m2, .ref m3, .int 0, .ref m4, .ref m5, .ref m6, .int 0, .ref m7, .ref m8, .ref m9, .int 0, .ref m10, .int 0, .ref m11, .ref m12, .ref m13, .int 0, .ref m14, .int 0, .int 0, .int 0, .ref m15, .ref m16]))] H := hP
  have hD : va_D A [(m0, .inr (20, [.int 0, .int 0, .ref m1, .ref m2, .ref m3, .int 0, .ref m4, .ref m5, .ref m6, .int 0, .ref m7, .ref m8, .ref m9, .int 0, .ref m10, .int 0, .ref m11, .ref m12, .ref m13, .int 0, .ref m14, .int 0, .int 0, .int 0, .ref m15, .ref m16]))] := hD
  refine lv_aload_n hx hb dX16_share_5 rfl (lv_at hl 0 rfl) ?_
  refine lv_aload_n hx hb dX16_share_6 rfl (lv_at hl 0 rfl) ?_
  refine va_get (D := D) (ci := 20) (v := .int 0) (C := RX16) (T := TX16) (N := 26) hx hb hts iv_k_X16_share_X16 hown hK hP 0 rfl rfl 23 (by decide) (hts (.fieldLink RX16 84 "AnswerFoldModel" "isWalked" "Z") (by decide +kernel)) (fun _ h9 => h9) rfl dX16_share_7 ?_
  refine lv_if_ne (tgt := 17) hx hb dX16_share_10 (by decide) (fun c0 => absurd (by decide) c0) (fun _ => ?_)
  refine lv_iconst (v := 1) hx hb dX16_share_13 (by decide) ?_
  refine lv_goto (tgt := 18) hx hb dX16_share_14 (by decide) ?_
  refine lv_iconst (v := 1) hx hb dX16_share_18 (by decide) ?_
  refine wq_i (wc := [(m0, .inr (20, [.int 0, .int 0, .ref m1, .ref m2, .ref m3, .int 0, .ref m4, .ref m5, .ref m6, .int 0, .ref m7, .ref m8, .ref m9, .int 0, .ref m10, .int 0, .ref m11, .ref m12, .ref m13, .int 0, .ref m14, .int 0, .int 0, .int 0, .ref m15, .ref m16]))]) (wr := []) (va_runV (As := [.int 1, .int 1]) (rest := []) ⟨hx, hb, hml, hown, hts⟩ (k_X16_fails_1_1 l D ty td mi H.size m0 m1 m2 m3 m4 m5 m6 m7 m8 m9 m10 m11 m12 m13 m14 m15 m16 0) (cwV 2 hts gv_k_X16_share_0 rfl rfl rfl (by decide +kernel) ⟨(Nat.le_of_ble_eq_true rfl), (Nat.le_of_ble_eq_true rfl)⟩) (wq_preV hP hD hK hE hS hA [0] rfl (by decide) 0 20 rfl rfl) rfl rfl hl.1 rfl (lv_room (Nat.le_of_ble_eq_true rfl)) dX16_share_19 ⟨(Nat.le_of_ble_eq_true rfl), (Nat.le_of_ble_eq_true rfl)⟩) hS hA hP hD [0] [] rfl rfl (by decide) (by decide) (fun r u H locs hw hP hD hS => ?_)
  obtain ⟨rfl, rfl⟩ := hw
  have hP : va_P D vwCl [(m0, .inr (20, [.int 1, .int 0, .ref m1, .ref m2, .ref m3, .int 0, .ref m4, .ref m5, .ref m6, .int 0, .ref m7, .ref m8, .ref m9, .int 0, .ref m10, .int 0, .ref m11, .ref m12, .ref m13, .int 0, .ref m14, .int 0, .int 0, .int 0, .ref m15, .ref m16]))] H := hP
  have hD : va_D A [(m0, .inr (20, [.int 1, .int 0, .ref m1, .ref m2, .ref m3, .int 0, .ref m4, .ref m5, .ref m6, .int 0, .ref m7, .ref m8, .ref m9, .int 0, .ref m10, .int 0, .ref m11, .ref m12, .ref m13, .int 0, .ref m14, .int 0, .int 0, .int 0, .ref m15, .ref m16]))] := hD
  refine W.widen (k := 0) (n := 0) (Nat.le_of_ble_eq_true rfl) (Nat.le_of_ble_eq_true rfl) ?_
  refine lv_if_ne (tgt := 68) hx hb dX16_share_22 (by decide) (fun _ => ?_) (fun c0 => absurd c0 (by decide))
  refine lv_fconst0 hx hb dX16_share_68 ?_
  have hP9 := hP.sub (ws' := [(m0, .inr (20, [.int 1, .int 0, .ref m1, .ref m2, .ref m3, .int 0, .ref m4, .ref m5, .ref m6, .int 0, .ref m7, .ref m8, .ref m9, .int 0, .ref m10, .int 0, .ref m11, .ref m12, .ref m13, .int 0, .ref m14, .int 0, .int 0, .int 0, .ref m15, .ref m16]))]) [0] rfl
  have hD9 := hD.sub (ws' := [(m0, .inr (20, [.int 1, .int 0, .ref m1, .ref m2, .ref m3, .int 0, .ref m4, .ref m5, .ref m6, .int 0, .ref m7, .ref m8, .ref m9, .int 0, .ref m10, .int 0, .ref m11, .ref m12, .ref m13, .int 0, .ref m14, .int 0, .int 0, .int 0, .ref m15, .ref m16]))]) [0] (by decide) rfl
  refine W.widen (k := 0) (n := 0) (Nat.le_of_ble_eq_true rfl) (Nat.le_of_ble_eq_true rfl) ?_
  exact W.fret (v := FP.fconst0) hx hb hr (fun t ht hW => ⟨⟨FP.fconst0, [(m0, .inr (20, [.int 1, .int 0, .ref m1, .ref m2, .ref m3, .int 0, .ref m4, .ref m5, .ref m6, .int 0, .ref m7, .ref m8, .ref m9, .int 0, .ref m10, .int 0, .ref m11, .ref m12, .ref m13, .int 0, .ref m14, .int 0, .int 0, .int 0, .ref m15, .ref m16]))], rfl, ⟨rfl, rfl⟩, wq_B.of ht hP9 hD9⟩, hS.F ht⟩) hS.2.2 dX16_share_69
def vs_k_X16_commonest : List Cond := .code yX16_commonest cX16_commonest 3 (some .int) :: ([.fieldLink RX16 65 "AnswerFoldModel" "thrown" "I", .fieldLink RX16 84 "AnswerFoldModel" "isWalked" "Z", .methodLink RX16 87 yX16_fails, .instanceMethod yX16_fails, .selects RX16 yX16_fails yX16_fails, .initialized RX16] ++ (u_ws RX16 TX16 26 ++ (vs_k_X16_fails_1_1)))
theorem iv_k_X16_commonest_X16 : ∀ w ∈ u_ws RX16 TX16 26, w ∈ vs_k_X16_commonest := (fun _ h => List.mem_cons_of_mem _ (List.mem_append_right _ (List.mem_append_left _ h)))
set_option maxRecDepth 20000 in
theorem gv_k_X16_commonest_0 : GoodIn vs_k_X16_commonest (wsV RX16 87 RX16 yX16_fails vs_k_X16_fails_1_1) := goodIn_app (goodIn_sub (by decide +kernel) (by decide +kernel)) (goodIn_sub (fun _ h => List.mem_cons_of_mem _ (List.mem_append_right _ (List.mem_append_right _ (h)))) (by decide +kernel))
set_option maxHeartbeats 4000000 in
set_option maxRecDepth 100000 in
theorem k_X16_commonest (l : Launch) (D : va_G) (ty : Nat → ClassId) (td mi sz : Nat) (m0 : Nat) (m1 : Nat) (m2 : Nat) (m3 : Nat) (m4 : Nat) (m5 : Nat) (m6 : Nat) (m7 : Nat) (m8 : Nat) (m9 : Nat) (m10 : Nat) (m11 : Nat) (m12 : Nat) (m13 : Nat) (m14 : Nat) (m15 : Nat) (m16 : Nat) : Met l yX16_commonest vs_k_X16_commonest { frames := 1, cells := 0, slots := 0, locals := 22 } (va_Pc [.ref m0] (wq_P D ty td mi [(m0, .inr (20, [.int 0, .int 0, .ref m1, .ref m2, .ref m3, .int 0, .ref m4, .ref m5, .ref m6, .int 0, .ref m7, .ref m8, .ref m9, .int 0, .ref m10, .int 0, .ref m11, .ref m12, .ref m13, .int 0, .ref m14, .int 0, .int 0, .int 0, .ref m15, .ref m16]))] sz)) (va_Qi (fun (r : Int32) (u : va_W) => (r = 0 ∧ (u = [(m0, .inr (20, [.int 1, .int 0, .ref m1, .ref m2, .ref m3, .int 0, .ref m4, .ref m5, .ref m6, .int 0, .ref m7, .ref m8, .ref m9, .int 0, .ref m10, .int 0, .ref m11, .ref m12, .ref m13, .int 0, .ref m14, .int 0, .int 0, .int 0, .ref m15, .ref m16]))]))) (wq_B D (va_A [(m0, .inr (20, [.int 0, .int 0, .ref m1, .ref m2, .ref m3, .int 0, .ref m4, .ref m5, .ref m6, .int 0, .ref m7, .ref m8, .ref m9, .int 0, .ref m10, .int 0, .ref m11, .ref m12, .ref m13, .int 0, .ref m14, .int 0, .int 0, .int 0, .ref m15, .ref m16]))] sz)) (va_A [(m0, .inr (20, [.int 0, .int 0, .ref m1, .ref m2, .ref m3, .int 0, .ref m4, .ref m5, .ref m6, .int 0, .ref m7, .ref m8, .ref m9, .int 0, .ref m10, .int 0, .ref m11, .ref m12, .ref m13, .int 0, .ref m14, .int 0, .int 0, .int 0, .ref m15, .ref m16]))] sz)) 0 0 (va_A [(m0, .inr (20, [.int 0, .int 0, .ref m1, .ref m2, .ref m3, .int 0, .ref m4, .ref m5, .ref m6, .int 0, .ref m7, .ref m8, .ref m9, .int 0, .ref m10, .int 0, .ref m11, .ref m12, .ref m13, .int 0, .ref m14, .int 0, .int 0, .int 0, .ref m15, .ref m16]))] sz) := by
  refine Met.ofW (cc := cX16_commonest) (maxL := 3) (ret := (some .int)) (by decide) rfl ?_
  intro p e s m args below meth c s₁ B hml hv
  obtain ⟨rfl, hsz, hP, hK, hD0, hE⟩ := hv
  have hx := B.exec
  have hb := B.bytes
  have hr := B.returns
  have hts := atoms_spec (ws := vs_k_X16_commonest) B.pre
  have hown : s.vm.findClass RX16 = some m.cls := findClass_of_methodNamed B.named
  have hlocks := B.notSynchronized
  subst hsz
  have hD := hD0.self (sz := s.heap.size)
  generalize hAe : va_A [(m0, .inr (20, [.int 0, .int 0, .ref m1, .ref m2, .ref m3, .int 0, .ref m4, .ref m5, .ref m6, .int 0, .ref m7, .ref m8, .ref m9, .int 0, .ref m10, .int 0, .ref m11, .ref m12, .ref m13, .int 0, .ref m14, .int 0, .int 0, .int 0, .ref m15, .ref m16]))] s.heap.size = A at hD hE ⊢
  have hA : ∀ q : Nat, s.heap.size ≤ q → A q := fun q h => by rw [← hAe]; exact Or.inr h
  have hS : va_S A s.heap s.heap [] := va_S.rf
  have hP : va_P D vwCl [(m0, .inr (20, [.int 0, .int 0, .ref m1, .ref m2, .ref m3, .int 0, .ref m4, .ref m5, .ref m6, .int 0, .ref m7, .ref m8, .ref m9, .int 0, .ref m10, .int 0, .ref m11, .ref m12, .ref m13, .int 0, .ref m14, .int 0, .int 0, .int 0, .ref m15, .ref m16]))] s.heap := hP
  have hl := lv_entry ([.ref m0]) (n := 3) (Nat.le_of_ble_eq_true rfl)
  rw [lg_entry_eq]
  generalize (lg_sl ([.ref m0]) ++ List.replicate (3 - (lg_sl ([.ref m0])).length) Slot.unset).toArray = ls at hl ⊢
  have hl : lv_has ls 3 [(0, .ref m0)] := hl
  refine lv_aload_n hx hb dX16_commonest_0 rfl (lv_at hl 0 rfl) ?_
  refine lv_iconst (v := 0) hx hb dX16_commonest_1 (by decide) ?_
  refine va_put (D := D) (ci := 20) (v := .int 0) (ty := tyX16 0) (C := RX16) (T := TX16) (N := 26) hx hb hts iv_k_X16_commonest_X16 tyX16 tyX16_ok nmX16 hown hK hP hD hS 0 rfl rfl 0 (by decide) (hts (.fieldLink RX16 65 "AnswerFoldModel" "thrown" "I") (by decide +kernel)) (fun _ h9 => h9) rfl (by decide +kernel) rfl rfl (Nat.le_of_ble_eq_true rfl) dX16_commonest_2 (fun H locs hP hD hS => ?_)
  have hP : va_P D vwCl [(m0, .inr (20, [.int 0, .int 0, .ref m1, .ref m2, .ref m3, .int 0, .ref m4, .ref m5, .ref m6, .int 0, .ref m7, .ref m8, .ref m9, .int 0, .ref m10, .int 0, .ref m11, .ref m12, .ref m13, .int 0, .ref m14, .int 0, .int 0, .int 0, .ref m15, .ref m16]))] H := hP
  have hD : va_D A [(m0, .inr (20, [.int 0, .int 0, .ref m1, .ref m2, .ref m3, .int 0, .ref m4, .ref m5, .ref m6, .int 0, .ref m7, .ref m8, .ref m9, .int 0, .ref m10, .int 0, .ref m11, .ref m12, .ref m13, .int 0, .ref m14, .int 0, .int 0, .int 0, .ref m15, .ref m16]))] := hD
  refine lv_aload_n hx hb dX16_commonest_5 rfl (lv_at hl 0 rfl) ?_
  refine lv_aload_n hx hb dX16_commonest_6 rfl (lv_at hl 0 rfl) ?_
  refine va_get (D := D) (ci := 20) (v := .int 0) (C := RX16) (T := TX16) (N := 26) hx hb hts iv_k_X16_commonest_X16 hown hK hP 0 rfl rfl 23 (by decide) (hts (.fieldLink RX16 84 "AnswerFoldModel" "isWalked" "Z") (by decide +kernel)) (fun _ h9 => h9) rfl dX16_commonest_7 ?_
  refine lv_if_ne (tgt := 17) hx hb dX16_commonest_10 (by decide) (fun c0 => absurd (by decide) c0) (fun _ => ?_)
  refine lv_iconst (v := 1) hx hb dX16_commonest_13 (by decide) ?_
  refine lv_goto (tgt := 18) hx hb dX16_commonest_14 (by decide) ?_
  refine lv_iconst (v := 1) hx hb dX16_commonest_18 (by decide) ?_
  refine wq_i (wc := [(m0, .inr (20, [.int 0, .int 0, .ref m1, .ref m2, .ref m3, .int 0, .ref m4, .ref m5, .ref m6, .int 0, .ref m7, .ref m8, .ref m9, .int 0, .ref m10, .int 0, .ref m11, .ref m12, .ref m13, .int 0, .ref m14, .int 0, .int 0, .int 0, .ref m15, .ref m16]))]) (wr := []) (va_runV (As := [.int 1, .int 1]) (rest := []) ⟨hx, hb, hml, hown, hts⟩ (k_X16_fails_1_1 l D ty td mi H.size m0 m1 m2 m3 m4 m5 m6 m7 m8 m9 m10 m11 m12 m13 m14 m15 m16 0) (cwV 2 hts gv_k_X16_commonest_0 rfl rfl rfl (by decide +kernel) ⟨(Nat.le_of_ble_eq_true rfl), (Nat.le_of_ble_eq_true rfl)⟩) (wq_preV hP hD hK hE hS hA [0] rfl (by decide) 0 20 rfl rfl) rfl rfl hl.1 rfl (lv_room (Nat.le_of_ble_eq_true rfl)) dX16_commonest_19 ⟨(Nat.le_of_ble_eq_true rfl), (Nat.le_of_ble_eq_true rfl)⟩) hS hA hP hD [0] [] rfl rfl (by decide) (by decide) (fun r u H locs hw hP hD hS => ?_)
  obtain ⟨rfl, rfl⟩ := hw
  have hP : va_P D vwCl [(m0, .inr (20, [.int 1, .int 0, .ref m1, .ref m2, .ref m3, .int 0, .ref m4, .ref m5, .ref m6, .int 0, .ref m7, .ref m8, .ref m9, .int 0, .ref m10, .int 0, .ref m11, .ref m12, .ref m13, .int 0, .ref m14, .int 0, .int 0, .int 0, .ref m15, .ref m16]))] H := hP
  have hD : va_D A [(m0, .inr (20, [.int 1, .int 0, .ref m1, .ref m2, .ref m3, .int 0, .ref m4, .ref m5, .ref m6, .int 0, .ref m7, .ref m8, .ref m9, .int 0, .ref m10, .int 0, .ref m11, .ref m12, .ref m13, .int 0, .ref m14, .int 0, .int 0, .int 0, .ref m15, .ref m16]))] := hD
  refine W.widen (k := 0) (n := 0) (Nat.le_of_ble_eq_true rfl) (Nat.le_of_ble_eq_true rfl) ?_
  refine lv_if_ne (tgt := 55) hx hb dX16_commonest_22 (by decide) (fun _ => ?_) (fun c0 => absurd c0 (by decide))
  refine lv_iconst (v := 0) hx hb dX16_commonest_55 (by decide) ?_
  have hP9 := hP.sub (ws' := [(m0, .inr (20, [.int 1, .int 0, .ref m1, .ref m2, .ref m3, .int 0, .ref m4, .ref m5, .ref m6, .int 0, .ref m7, .ref m8, .ref m9, .int 0, .ref m10, .int 0, .ref m11, .ref m12, .ref m13, .int 0, .ref m14, .int 0, .int 0, .int 0, .ref m15, .ref m16]))]) [0] rfl
  have hD9 := hD.sub (ws' := [(m0, .inr (20, [.int 1, .int 0, .ref m1, .ref m2, .ref m3, .int 0, .ref m4, .ref m5, .ref m6, .int 0, .ref m7, .ref m8, .ref m9, .int 0, .ref m10, .int 0, .ref m11, .ref m12, .ref m13, .int 0, .ref m14, .int 0, .int 0, .int 0, .ref m15, .ref m16]))]) [0] (by decide) rfl
  refine W.widen (k := 0) (n := 0) (Nat.le_of_ble_eq_true rfl) (Nat.le_of_ble_eq_true rfl) ?_
  exact W.iret (v := 0) hx hb hr (fun t ht hW => ⟨⟨0, [(m0, .inr (20, [.int 1, .int 0, .ref m1, .ref m2, .ref m3, .int 0, .ref m4, .ref m5, .ref m6, .int 0, .ref m7, .ref m8, .ref m9, .int 0, .ref m10, .int 0, .ref m11, .ref m12, .ref m13, .int 0, .ref m14, .int 0, .int 0, .int 0, .ref m15, .ref m16]))], rfl, ⟨rfl, rfl⟩, wq_B.of ht hP9 hD9⟩, hS.F ht⟩) hS.2.2 dX16_commonest_56
def vs_k_X16_meanSize : List Cond := .code yX16_meanSize cX16_meanSize 4 (some .double) :: ([.fieldLink RX16 65 "AnswerFoldModel" "thrown" "I", .fieldLink RX16 84 "AnswerFoldModel" "isWalked" "Z", .methodLink RX16 87 yX16_fails, .instanceMethod yX16_fails, .selects RX16 yX16_fails yX16_fails, .initialized RX16] ++ (u_ws RX16 TX16 26 ++ (vs_k_X16_fails_1_1)))
theorem iv_k_X16_meanSize_X16 : ∀ w ∈ u_ws RX16 TX16 26, w ∈ vs_k_X16_meanSize := (fun _ h => List.mem_cons_of_mem _ (List.mem_append_right _ (List.mem_append_left _ h)))
set_option maxRecDepth 20000 in
theorem gv_k_X16_meanSize_0 : GoodIn vs_k_X16_meanSize (wsV RX16 87 RX16 yX16_fails vs_k_X16_fails_1_1) := goodIn_app (goodIn_sub (by decide +kernel) (by decide +kernel)) (goodIn_sub (fun _ h => List.mem_cons_of_mem _ (List.mem_append_right _ (List.mem_append_right _ (h)))) (by decide +kernel))
set_option maxHeartbeats 4000000 in
set_option maxRecDepth 100000 in
theorem k_X16_meanSize (l : Launch) (D : va_G) (ty : Nat → ClassId) (td mi sz : Nat) (m0 : Nat) (m1 : Nat) (m2 : Nat) (m3 : Nat) (m4 : Nat) (m5 : Nat) (m6 : Nat) (m7 : Nat) (m8 : Nat) (m9 : Nat) (m10 : Nat) (m11 : Nat) (m12 : Nat) (m13 : Nat) (m14 : Nat) (m15 : Nat) (m16 : Nat) : Met l yX16_meanSize vs_k_X16_meanSize { frames := 1, cells := 0, slots := 0, locals := 22 } (va_Pc [.ref m0] (wq_P D ty td mi [(m0, .inr (20, [.int 0, .int 0, .ref m1, .ref m2, .ref m3, .int 0, .ref m4, .ref m5, .ref m6, .int 0, .ref m7, .ref m8, .ref m9, .int 0, .ref m10, .int 0, .ref m11, .ref m12, .ref m13, .int 0, .ref m14, .int 0, .int 0, .int 0, .ref m15, .ref m16]))] sz)) (va_Qd (fun (r : UInt64) (u : va_W) => (r = FP.dconst0 ∧ (u = [(m0, .inr (20, [.int 1, .int 0, .ref m1, .ref m2, .ref m3, .int 0, .ref m4, .ref m5, .ref m6, .int 0, .ref m7, .ref m8, .ref m9, .int 0, .ref m10, .int 0, .ref m11, .ref m12, .ref m13, .int 0, .ref m14, .int 0, .int 0, .int 0, .ref m15, .ref m16]))]))) (wq_B D (va_A [(m0, .inr (20, [.int 0, .int 0, .ref m1, .ref m2, .ref m3, .int 0, .ref m4, .ref m5, .ref m6, .int 0, .ref m7, .ref m8, .ref m9, .int 0, .ref m10, .int 0, .ref m11, .ref m12, .ref m13, .int 0, .ref m14, .int 0, .int 0, .int 0, .ref m15, .ref m16]))] sz)) (va_A [(m0, .inr (20, [.int 0, .int 0, .ref m1, .ref m2, .ref m3, .int 0, .ref m4, .ref m5, .ref m6, .int 0, .ref m7, .ref m8, .ref m9, .int 0, .ref m10, .int 0, .ref m11, .ref m12, .ref m13, .int 0, .ref m14, .int 0, .int 0, .int 0, .ref m15, .ref m16]))] sz)) 0 0 (va_A [(m0, .inr (20, [.int 0, .int 0, .ref m1, .ref m2, .ref m3, .int 0, .ref m4, .ref m5, .ref m6, .int 0, .ref m7, .ref m8, .ref m9, .int 0, .ref m10, .int 0, .ref m11, .ref m12, .ref m13, .int 0, .ref m14, .int 0, .int 0, .int 0, .ref m15, .ref m16]))] sz) := by
  refine Met.ofW (cc := cX16_meanSize) (maxL := 4) (ret := (some .double)) (by decide) rfl ?_
  intro p e s m args below meth c s₁ B hml hv
  obtain ⟨rfl, hsz, hP, hK, hD0, hE⟩ := hv
  have hx := B.exec
  have hb := B.bytes
  have hr := B.returns
  have hts := atoms_spec (ws := vs_k_X16_meanSize) B.pre
  have hown : s.vm.findClass RX16 = some m.cls := findClass_of_methodNamed B.named
  have hlocks := B.notSynchronized
  subst hsz
  have hD := hD0.self (sz := s.heap.size)
  generalize hAe : va_A [(m0, .inr (20, [.int 0, .int 0, .ref m1, .ref m2, .ref m3, .int 0, .ref m4, .ref m5, .ref m6, .int 0, .ref m7, .ref m8, .ref m9, .int 0, .ref m10, .int 0, .ref m11, .ref m12, .ref m13, .int 0, .ref m14, .int 0, .int 0, .int 0, .ref m15, .ref m16]))] s.heap.size = A at hD hE ⊢
  have hA : ∀ q : Nat, s.heap.size ≤ q → A q := fun q h => by rw [← hAe]; exact Or.inr h
  have hS : va_S A s.heap s.heap [] := va_S.rf
  have hP : va_P D vwCl [(m0, .inr (20, [.int 0, .int 0, .ref m1, .ref m2, .ref m3, .int 0, .ref m4, .ref m5, .ref m6, .int 0, .ref m7, .ref m8, .ref m9, .int 0, .ref m10, .int 0, .ref m11, .ref m12, .ref m13, .int 0, .ref m14, .int 0, .int 0, .int 0, .ref m15, .ref m16]))] s.heap := hP
  have hl := lv_entry ([.ref m0]) (n := 4) (Nat.le_of_ble_eq_true rfl)
  rw [lg_entry_eq]
  generalize (lg_sl ([.ref m0]) ++ List.replicate (4 - (lg_sl ([.ref m0])).length) Slot.unset).toArray = ls at hl ⊢
  have hl : lv_has ls 4 [(0, .ref m0)] := hl
  refine lv_aload_n hx hb dX16_meanSize_0 rfl (lv_at hl 0 rfl) ?_
  refine lv_iconst (v := 0) hx hb dX16_meanSize_1 (by decide) ?_
  refine va_put (D := D) (ci := 20) (v := .int 0) (ty := tyX16 0) (C := RX16) (T := TX16) (N := 26) hx hb hts iv_k_X16_meanSize_X16 tyX16 tyX16_ok nmX16 hown hK hP hD hS 0 rfl rfl 0 (by decide) (hts (.fieldLink RX16 65 "AnswerFoldModel" "thrown" "I") (by decide +kernel)) (fun _ h9 => h9) rfl (by decide +kernel) rfl rfl (Nat.le_of_ble_eq_true rfl) dX16_meanSize_2 (fun H locs hP hD hS => ?_)
  have hP : va_P D vwCl [(m0, .inr (20, [.int 0, .int 0, .ref m1, .ref m2, .ref m3, .int 0, .ref m4, .ref m5, .ref m6, .int 0, .ref m7, .ref m8, .ref m9, .int 0, .ref m10, .int 0, .ref m11, .ref m12, .ref m13, .int 0, .ref m14, .int 0, .int 0, .int 0, .ref m15, .ref m16]))] H := hP
  have hD : va_D A [(m0, .inr (20, [.int 0, .int 0, .ref m1, .ref m2, .ref m3, .int 0, .ref m4, .ref m5, .ref m6, .int 0, .ref m7, .ref m8, .ref m9, .int 0, .ref m10, .int 0, .ref m11, .ref m12, .ref m13, .int 0, .ref m14, .int 0, .int 0, .int 0, .ref m15, .ref m16]))] := hD
  refine lv_aload_n hx hb dX16_meanSize_5 rfl (lv_at hl 0 rfl) ?_
  refine lv_aload_n hx hb dX16_meanSize_6 rfl (lv_at hl 0 rfl) ?_
  refine va_get (D := D) (ci := 20) (v := .int 0) (C := RX16) (T := TX16) (N := 26) hx hb hts iv_k_X16_meanSize_X16 hown hK hP 0 rfl rfl 23 (by decide) (hts (.fieldLink RX16 84 "AnswerFoldModel" "isWalked" "Z") (by decide +kernel)) (fun _ h9 => h9) rfl dX16_meanSize_7 ?_
  refine lv_if_ne (tgt := 17) hx hb dX16_meanSize_10 (by decide) (fun c0 => absurd (by decide) c0) (fun _ => ?_)
  refine lv_iconst (v := 1) hx hb dX16_meanSize_13 (by decide) ?_
  refine lv_goto (tgt := 18) hx hb dX16_meanSize_14 (by decide) ?_
  refine lv_iconst (v := 1) hx hb dX16_meanSize_18 (by decide) ?_
  refine wq_i (wc := [(m0, .inr (20, [.int 0, .int 0, .ref m1, .ref m2, .ref m3, .int 0, .ref m4, .ref m5, .ref m6, .int 0, .ref m7, .ref m8, .ref m9, .int 0, .ref m10, .int 0, .ref m11, .ref m12, .ref m13, .int 0, .ref m14, .int 0, .int 0, .int 0, .ref m15, .ref m16]))]) (wr := []) (va_runV (As := [.int 1, .int 1]) (rest := []) ⟨hx, hb, hml, hown, hts⟩ (k_X16_fails_1_1 l D ty td mi H.size m0 m1 m2 m3 m4 m5 m6 m7 m8 m9 m10 m11 m12 m13 m14 m15 m16 0) (cwV 2 hts gv_k_X16_meanSize_0 rfl rfl rfl (by decide +kernel) ⟨(Nat.le_of_ble_eq_true rfl), (Nat.le_of_ble_eq_true rfl)⟩) (wq_preV hP hD hK hE hS hA [0] rfl (by decide) 0 20 rfl rfl) rfl rfl hl.1 rfl (lv_room (Nat.le_of_ble_eq_true rfl)) dX16_meanSize_19 ⟨(Nat.le_of_ble_eq_true rfl), (Nat.le_of_ble_eq_true rfl)⟩) hS hA hP hD [0] [] rfl rfl (by decide) (by decide) (fun r u H locs hw hP hD hS => ?_)
  obtain ⟨rfl, rfl⟩ := hw
  have hP : va_P D vwCl [(m0, .inr (20, [.int 1, .int 0, .ref m1, .ref m2, .ref m3, .int 0, .ref m4, .ref m5, .ref m6, .int 0, .ref m7, .ref m8, .ref m9, .int 0, .ref m10, .int 0, .ref m11, .ref m12, .ref m13, .int 0, .ref m14, .int 0, .int 0, .int 0, .ref m15, .ref m16]))] H := hP
  have hD : va_D A [(m0, .inr (20, [.int 1, .int 0, .ref m1, .ref m2, .ref m3, .int 0, .ref m4, .ref m5, .ref m6, .int 0, .ref m7, .ref m8, .ref m9, .int 0, .ref m10, .int 0, .ref m11, .ref m12, .ref m13, .int 0, .ref m14, .int 0, .int 0, .int 0, .ref m15, .ref m16]))] := hD
  refine W.widen (k := 0) (n := 0) (Nat.le_of_ble_eq_true rfl) (Nat.le_of_ble_eq_true rfl) ?_
  refine lv_if_ne (tgt := 40) hx hb dX16_meanSize_22 (by decide) (fun _ => ?_) (fun c0 => absurd c0 (by decide))
  refine lv_dconst0 hx hb dX16_meanSize_40 ?_
  have hP9 := hP.sub (ws' := [(m0, .inr (20, [.int 1, .int 0, .ref m1, .ref m2, .ref m3, .int 0, .ref m4, .ref m5, .ref m6, .int 0, .ref m7, .ref m8, .ref m9, .int 0, .ref m10, .int 0, .ref m11, .ref m12, .ref m13, .int 0, .ref m14, .int 0, .int 0, .int 0, .ref m15, .ref m16]))]) [0] rfl
  have hD9 := hD.sub (ws' := [(m0, .inr (20, [.int 1, .int 0, .ref m1, .ref m2, .ref m3, .int 0, .ref m4, .ref m5, .ref m6, .int 0, .ref m7, .ref m8, .ref m9, .int 0, .ref m10, .int 0, .ref m11, .ref m12, .ref m13, .int 0, .ref m14, .int 0, .int 0, .int 0, .ref m15, .ref m16]))]) [0] (by decide) rfl
  refine W.widen (k := 0) (n := 0) (Nat.le_of_ble_eq_true rfl) (Nat.le_of_ble_eq_true rfl) ?_
  exact W.dret (v := FP.dconst0) hx hb hr (fun t ht hW => ⟨⟨FP.dconst0, [(m0, .inr (20, [.int 1, .int 0, .ref m1, .ref m2, .ref m3, .int 0, .ref m4, .ref m5, .ref m6, .int 0, .ref m7, .ref m8, .ref m9, .int 0, .ref m10, .int 0, .ref m11, .ref m12, .ref m13, .int 0, .ref m14, .int 0, .int 0, .int 0, .ref m15, .ref m16]))], rfl, ⟨rfl, rfl⟩, wq_B.of ht hP9 hD9⟩, hS.F ht⟩) hS.2.2 dX16_meanSize_41
def vs_k_X16_assumptions : List Cond := .code yX16_assumptions cX16_assumptions 3 (some .int) :: ([.fieldLink RX16 30 "AnswerFoldModel" "assumed" "[I"] ++ (u_ws RX16 TX16 26))
theorem iv_k_X16_assumptions_X16 : ∀ w ∈ u_ws RX16 TX16 26, w ∈ vs_k_X16_assumptions := (fun _ h => List.mem_cons_of_mem _ (List.mem_append_right _ (h)))
set_option maxHeartbeats 4000000 in
set_option maxRecDepth 100000 in
theorem k_X16_assumptions (l : Launch) (D : va_G) (ty : Nat → ClassId) (td mi sz : Nat) (m0 : Nat) (m1 : Nat) (m2 : Nat) (m3 : Nat) (m4 : Nat) (m5 : Nat) (m6 : Nat) (m7 : Nat) (m8 : Nat) (m9 : Nat) (m10 : Nat) (m11 : Nat) (m12 : Nat) (m13 : Nat) (m14 : Nat) (m15 : Nat) (m16 : Nat) : Met l yX16_assumptions vs_k_X16_assumptions { frames := 0, cells := 0, slots := 0, locals := 0 } (va_Pc [.ref m0] (wq_P D ty td mi [(m0, .inr (20, [.int 0, .int 0, .ref m1, .ref m2, .ref m3, .int 0, .ref m4, .ref m5, .ref m6, .int 0, .ref m7, .ref m8, .ref m9, .int 0, .ref m10, .int 0, .ref m11, .ref m12, .ref m13, .int 0, .ref m14, .int 0, .int 0, .int 0, .ref m15, .ref m16])), (m6, .inl (ty 0, 384, .inl (fun _ => 0)))] sz)) (va_Qi (fun (r : Int32) (u : va_W) => (r = 0 ∧ (u = [(m0, .inr (20, [.int 0, .int 0, .ref m1, .ref m2, .ref m3, .int 0, .ref m4, .ref m5, .ref m6, .int 0, .ref m7, .ref m8, .ref m9, .int 0, .ref m10, .int 0, .ref m11, .ref m12, .ref m13, .int 0, .ref m14, .int 0, .int 0, .int 0, .ref m15, .ref m16])), (m6, .inl (ty 0, 384, .inl (fun _ => 0)))]))) (wq_B D (va_A [(m0, .inr (20, [.int 0, .int 0, .ref m1, .ref m2, .ref m3, .int 0, .ref m4, .ref m5, .ref m6, .int 0, .ref m7, .ref m8, .ref m9, .int 0, .ref m10, .int 0, .ref m11, .ref m12, .ref m13, .int 0, .ref m14, .int 0, .int 0, .int 0, .ref m15, .ref m16])), (m6, .inl (ty 0, 384, .inl (fun _ => 0)))] sz)) (va_A [(m0, .inr (20, [.int 0, .int 0, .ref m1, .ref m2, .ref m3, .int 0, .ref m4, .ref m5, .ref m6, .int 0, .ref m7, .ref m8, .ref m9, .int 0, .ref m10, .int 0, .ref m11, .ref m12, .ref m13, .int 0, .ref m14, .int 0, .int 0, .int 0, .ref m15, .ref m16])), (m6, .inl (ty 0, 384, .inl (fun _ => 0)))] sz)) 0 0 (va_A [(m0, .inr (20, [.int 0, .int 0, .ref m1, .ref m2, .ref m3, .int 0, .ref m4, .ref m5, .ref m6, .int 0, .ref m7, .ref m8, .ref m9, .int 0, .ref m10, .int 0, .ref m11, .ref m12, .ref m13, .int 0, .ref m14, .int 0, .int 0, .int 0, .ref m15, .ref m16])), (m6, .inl (ty 0, 384, .inl (fun _ => 0)))] sz) := by
  refine Met.ofW (cc := cX16_assumptions) (maxL := 3) (ret := (some .int)) (by decide) rfl ?_
  intro p e s m args below meth c s₁ B hml hv
  obtain ⟨rfl, hsz, hP, hK, hD0, hE⟩ := hv
  have hx := B.exec
  have hb := B.bytes
  have hr := B.returns
  have hts := atoms_spec (ws := vs_k_X16_assumptions) B.pre
  have hown : s.vm.findClass RX16 = some m.cls := findClass_of_methodNamed B.named
  have hlocks := B.notSynchronized
  subst hsz
  have hD := hD0.self (sz := s.heap.size)
  generalize hAe : va_A [(m0, .inr (20, [.int 0, .int 0, .ref m1, .ref m2, .ref m3, .int 0, .ref m4, .ref m5, .ref m6, .int 0, .ref m7, .ref m8, .ref m9, .int 0, .ref m10, .int 0, .ref m11, .ref m12, .ref m13, .int 0, .ref m14, .int 0, .int 0, .int 0, .ref m15, .ref m16])), (m6, .inl (ty 0, 384, .inl (fun _ => 0)))] s.heap.size = A at hD hE ⊢
  have hA : ∀ q : Nat, s.heap.size ≤ q → A q := fun q h => by rw [← hAe]; exact Or.inr h
  have hS : va_S A s.heap s.heap [] := va_S.rf
  have hP : va_P D vwCl [(m0, .inr (20, [.int 0, .int 0, .ref m1, .ref m2, .ref m3, .int 0, .ref m4, .ref m5, .ref m6, .int 0, .ref m7, .ref m8, .ref m9, .int 0, .ref m10, .int 0, .ref m11, .ref m12, .ref m13, .int 0, .ref m14, .int 0, .int 0, .int 0, .ref m15, .ref m16])), (m6, .inl (ty 0, 384, .inl (fun _ => 0)))] s.heap := hP
  have hl := lv_entry ([.ref m0]) (n := 3) (Nat.le_of_ble_eq_true rfl)
  rw [lg_entry_eq]
  generalize (lg_sl ([.ref m0]) ++ List.replicate (3 - (lg_sl ([.ref m0])).length) Slot.unset).toArray = ls at hl ⊢
  have hl : lv_has ls 3 [(0, .ref m0)] := hl
  refine lv_iconst (v := 0) hx hb dX16_assumptions_0 (by decide) ?_
  refine lv_istore_n (lv' := [(1, .int 0), (0, .ref m0)]) hx hb dX16_assumptions_1 rfl hl (by decide) rfl (fun ls hl => ?_)
  refine lv_iconst (v := 0) hx hb dX16_assumptions_2 (by decide) ?_
  refine lv_istore_n (lv' := [(2, .int 0), (1, .int 0), (0, .ref m0)]) hx hb dX16_assumptions_3 rfl hl (by decide) rfl (fun ls hl => ?_)
  have LOOP : ∀ (n i : Nat), i ≤ 384 → 384 - i < n → ∀ (H : Heap) (locs : List Loc), va_P D vwCl [(m0, .inr (20, [.int 0, .int 0, .ref m1, .ref m2, .ref m3, .int 0, .ref m4, .ref m5, .ref m6, .int 0, .ref m7, .ref m8, .ref m9, .int 0, .ref m10, .int 0, .ref m11, .ref m12, .ref m13, .int 0, .ref m14, .int 0, .int 0, .int 0, .ref m15, .ref m16])), (m6, .inl (ty 0, 384, .inl (fun _ => 0)))] H → va_D A [(m0, .inr (20, [.int 0, .int 0, .ref m1, .ref m2, .ref m3, .int 0, .ref m4, .ref m5, .ref m6, .int 0, .ref m7, .ref m8, .ref m9, .int 0, .ref m10, .int 0, .ref m11, .ref m12, .ref m13, .int 0, .ref m14, .int 0, .int 0, .int 0, .ref m15, .ref m16])), (m6, .inl (ty 0, 384, .inl (fun _ => 0)))] → va_S A s.heap H locs → ∀ ls : Array Slot, lv_has ls 3 [(2, .int (nI i)), (1, .int 0), (0, .ref m0)] → W p l e (headSpec vs_k_X16_assumptions { frames := 0, cells := 0, slots := 0, locals := 0 }).room s m ([.ref m0] : List Value).toArray below meth c H locs 0 0 (MQ below (va_Qi (fun (r : Int32) (u : va_W) => (r = 0 ∧ (u = [(m0, .inr (20, [.int 0, .int 0, .ref m1, .ref m2, .ref m3, .int 0, .ref m4, .ref m5, .ref m6, .int 0, .ref m7, .ref m8, .ref m9, .int 0, .ref m10, .int 0, .ref m11, .ref m12, .ref m13, .int 0, .ref m14, .int 0, .int 0, .int 0, .ref m15, .ref m16])), (m6, .inl (ty 0, 384, .inl (fun _ => 0)))]))) (wq_B D A) A) ([.ref m0] : List Value).toArray s 0 0 A) (F0 m 4 ls []) := by
    intro n
    induction n with
    | zero => intro i h1 h2; omega
    | succ n ih =>
      intro i hi hn H locs hP hD hS ls hl
      refine lv_iload_n hx hb dX16_assumptions_4 rfl (lv_at hl 0 rfl) ?_
      refine lv_sipush (v := 384) hx hb dX16_assumptions_5 (by decide) ?_
      refine lv_icmp_ge (tgt := 34) hx hb dX16_assumptions_8 (by decide) (fun c0 => ?_) (fun c0 => ?_)
      · have hiN : i = 384 := wq_geN (N := 384) c0 hi (by decide)
        subst hiN
        have hl : lv_has ls 3 [(2, .int 384), (1, .int 0), (0, .ref m0)] := hl
        have hP : va_P D vwCl [(m0, .inr (20, [.int 0, .int 0, .ref m1, .ref m2, .ref m3, .int 0, .ref m4, .ref m5, .ref m6, .int 0, .ref m7, .ref m8, .ref m9, .int 0, .ref m10, .int 0, .ref m11, .ref m12, .ref m13, .int 0, .ref m14, .int 0, .int 0, .int 0, .ref m15, .ref m16])), (m6, .inl (ty 0, 384, .inl (fun _ => 0)))] H := hP
        have hD : va_D A [(m0, .inr (20, [.int 0, .int 0, .ref m1, .ref m2, .ref m3, .int 0, .ref m4, .ref m5, .ref m6, .int 0, .ref m7, .ref m8, .ref m9, .int 0, .ref m10, .int 0, .ref m11, .ref m12, .ref m13, .int 0, .ref m14, .int 0, .int 0, .int 0, .ref m15, .ref m16])), (m6, .inl (ty 0, 384, .inl (fun _ => 0)))] := hD
        refine lv_iload_n hx hb dX16_assumptions_34 rfl (lv_at hl 1 rfl) ?_
        have hP9 := hP.sub (ws' := [(m0, .inr (20, [.int 0, .int 0, .ref m1, .ref m2, .ref m3, .int 0, .ref m4, .ref m5, .ref m6, .int 0, .ref m7, .ref m8, .ref m9, .int 0, .ref m10, .int 0, .ref m11, .ref m12, .ref m13, .int 0, .ref m14, .int 0, .int 0, .int 0, .ref m15, .ref m16])), (m6, .inl (ty 0, 384, .inl (fun _ => 0)))]) [0, 1] rfl
        have hD9 := hD.sub (ws' := [(m0, .inr (20, [.int 0, .int 0, .ref m1, .ref m2, .ref m3, .int 0, .ref m4, .ref m5, .ref m6, .int 0, .ref m7, .ref m8, .ref m9, .int 0, .ref m10, .int 0, .ref m11, .ref m12, .ref m13, .int 0, .ref m14, .int 0, .int 0, .int 0, .ref m15, .ref m16])), (m6, .inl (ty 0, 384, .inl (fun _ => 0)))]) [0, 1] (by decide) rfl
        refine W.widen (k := 0) (n := 0) (Nat.le_of_ble_eq_true rfl) (Nat.le_of_ble_eq_true rfl) ?_
        exact W.iret (v := 0) hx hb hr (fun t ht hW => ⟨⟨0, [(m0, .inr (20, [.int 0, .int 0, .ref m1, .ref m2, .ref m3, .int 0, .ref m4, .ref m5, .ref m6, .int 0, .ref m7, .ref m8, .ref m9, .int 0, .ref m10, .int 0, .ref m11, .ref m12, .ref m13, .int 0, .ref m14, .int 0, .int 0, .int 0, .ref m15, .ref m16])), (m6, .inl (ty 0, 384, .inl (fun _ => 0)))], rfl, ⟨rfl, rfl⟩, wq_B.of ht hP9 hD9⟩, hS.F ht⟩) hS.2.2 dX16_assumptions_35
      · have hlt : i < 384 := wq_ltN (N := 384) c0 hi (by decide)
        refine lv_iload_n hx hb dX16_assumptions_11 rfl (lv_at hl 1 rfl) ?_
        refine lv_aload_n hx hb dX16_assumptions_12 rfl (lv_at hl 2 rfl) ?_
        refine va_get (D := D) (ci := 20) (v := .ref m6) (C := RX16) (T := TX16) (N := 26) hx hb hts iv_k_X16_assumptions_X16 hown hK hP 0 rfl rfl 8 (by decide) (hts (.fieldLink RX16 30 "AnswerFoldModel" "assumed" "[I") (by decide +kernel)) (fun _ h9 => h9) rfl dX16_assumptions_13 ?_
        refine lv_iload_n hx hb dX16_assumptions_16 rfl (lv_at hl 0 rfl) ?_
        refine va_iald (D := D) hx hb hK hP 1 0 rfl rfl (by first | assumption | exact vp_in_nI (by omega) (by omega)) dX16_assumptions_17 ?_
        refine lv_topi (nm_r (e' := 0) (by first | rfl | decide | exact wq_sel hlt (by decide)) ?_)
        refine lv_if_eq (tgt := 25) hx hb dX16_assumptions_18 (by decide) (fun _ => ?_) (fun c0 => absurd (by decide) c0)
        refine lv_iconst (v := 0) hx hb dX16_assumptions_25 (by decide) ?_
        refine lv_iadd hx hb dX16_assumptions_26 ?_
        refine lv_topi (nm_r (e' := 0) (by decide) ?_)
        refine lv_istore_n (lv' := [(1, .int 0), (2, .int (nI i)), (0, .ref m0)]) hx hb dX16_assumptions_27 rfl hl (by decide) rfl (fun ls hl => ?_)
        refine lv_iinc (v := nI (i + 1)) (lv' := [(2, .int (nI (i + 1))), (1, .int 0), (0, .ref m0)]) hx hb dX16_assumptions_28 hl (k := 1) rfl (by exact nI_1 i) (by decide) rfl (fun ls hl => ?_)
        refine lv_goto (tgt := 4) hx hb dX16_assumptions_31 (by decide) ?_
        have hP : va_P D vwCl [(m0, .inr (20, [.int 0, .int 0, .ref m1, .ref m2, .ref m3, .int 0, .ref m4, .ref m5, .ref m6, .int 0, .ref m7, .ref m8, .ref m9, .int 0, .ref m10, .int 0, .ref m11, .ref m12, .ref m13, .int 0, .ref m14, .int 0, .int 0, .int 0, .ref m15, .ref m16])), (m6, .inl (ty 0, 384, .inl (fun _ => 0)))] H := hP
        have hD : va_D A [(m0, .inr (20, [.int 0, .int 0, .ref m1, .ref m2, .ref m3, .int 0, .ref m4, .ref m5, .ref m6, .int 0, .ref m7, .ref m8, .ref m9, .int 0, .ref m10, .int 0, .ref m11, .ref m12, .ref m13, .int 0, .ref m14, .int 0, .int 0, .int 0, .ref m15, .ref m16])), (m6, .inl (ty 0, 384, .inl (fun _ => 0)))] := hD
        exact ih (i + 1) (by omega) (by omega) _ _ (hP.sub [0, 1] rfl) (hD.sub [0, 1] (by decide) rfl) hS _ (lv_sub hl [0, 1, 2] rfl)
  exact LOOP 385 0 (by omega) (by omega) _ _ hP hD hS _ hl
def vs_k_X16_dropAssumptions : List Cond := .code yX16_dropAssumptions cX16_dropAssumptions 3 (some .int) :: ([.fieldLink RX16 65 "AnswerFoldModel" "thrown" "I", .methodLink RX16 195 yX16_assumptions, .instanceMethod yX16_assumptions, .selects RX16 yX16_assumptions yX16_assumptions, .initialized RX16, .fieldLink RX16 84 "AnswerFoldModel" "isWalked" "Z", .fieldLink RX16 30 "AnswerFoldModel" "assumed" "[I"] ++ (u_ws RX16 TX16 26 ++ (vs_k_X16_assumptions)))
theorem iv_k_X16_dropAssumptions_X16 : ∀ w ∈ u_ws RX16 TX16 26, w ∈ vs_k_X16_dropAssumptions := (fun _ h => List.mem_cons_of_mem _ (List.mem_append_right _ (List.mem_append_left _ h)))
set_option maxRecDepth 20000 in
theorem gv_k_X16_dropAssumptions_0 : GoodIn vs_k_X16_dropAssumptions (wsV RX16 195 RX16 yX16_assumptions vs_k_X16_assumptions) := goodIn_app (goodIn_sub (by decide +kernel) (by decide +kernel)) (goodIn_sub (fun _ h => List.mem_cons_of_mem _ (List.mem_append_right _ (List.mem_append_right _ (h)))) (by decide +kernel))
set_option maxHeartbeats 4000000 in
set_option maxRecDepth 100000 in
theorem k_X16_dropAssumptions (l : Launch) (D : va_G) (ty : Nat → ClassId) (td mi sz : Nat) (m0 : Nat) (m1 : Nat) (m2 : Nat) (m3 : Nat) (m4 : Nat) (m5 : Nat) (m6 : Nat) (m7 : Nat) (m8 : Nat) (m9 : Nat) (m10 : Nat) (m11 : Nat) (m12 : Nat) (m13 : Nat) (m14 : Nat) (m15 : Nat) (m16 : Nat) : Met l yX16_dropAssumptions vs_k_X16_dropAssumptions { frames := 1, cells := 0, slots := 0, locals := 22 } (va_Pc [.ref m0] (wq_P D ty td mi [(m0, .inr (20, [.int 0, .int 0, .ref m1, .ref m2, .ref m3, .int 0, .ref m4, .ref m5, .ref m6, .int 0, .ref m7, .ref m8, .ref m9, .int 0, .ref m10, .int 0, .ref m11, .ref m12, .ref m13, .int 0, .ref m14, .int 0, .int 0, .int 0, .ref m15, .ref m16])), (m6, .inl (ty 0, 384, .inl (fun _ => 0)))] sz)) (va_Qi (fun (r : Int32) (u : va_W) => (r = 0 ∧ (u = [(m0, .inr (20, [.int 0, .int 0, .ref m1, .ref m2, .ref m3, .int 0, .ref m4, .ref m5, .ref m6, .int 0, .ref m7, .ref m8, .ref m9, .int 0, .ref m10, .int 0, .ref m11, .ref m12, .ref m13, .int 0, .ref m14, .int 0, .int 0, .int 0, .ref m15, .ref m16]))]))) (wq_B D (va_A [(m0, .inr (20, [.int 0, .int 0, .ref m1, .ref m2, .ref m3, .int 0, .ref m4, .ref m5, .ref m6, .int 0, .ref m7, .ref m8, .ref m9, .int 0, .ref m10, .int 0, .ref m11, .ref m12, .ref m13, .int 0, .ref m14, .int 0, .int 0, .int 0, .ref m15, .ref m16])), (m6, .inl (ty 0, 384, .inl (fun _ => 0)))] sz)) (va_A [(m0, .inr (20, [.int 0, .int 0, .ref m1, .ref m2, .ref m3, .int 0, .ref m4, .ref m5, .ref m6, .int 0, .ref m7, .ref m8, .ref m9, .int 0, .ref m10, .int 0, .ref m11, .ref m12, .ref m13, .int 0, .ref m14, .int 0, .int 0, .int 0, .ref m15, .ref m16])), (m6, .inl (ty 0, 384, .inl (fun _ => 0)))] sz)) 0 0 (va_A [(m0, .inr (20, [.int 0, .int 0, .ref m1, .ref m2, .ref m3, .int 0, .ref m4, .ref m5, .ref m6, .int 0, .ref m7, .ref m8, .ref m9, .int 0, .ref m10, .int 0, .ref m11, .ref m12, .ref m13, .int 0, .ref m14, .int 0, .int 0, .int 0, .ref m15, .ref m16])), (m6, .inl (ty 0, 384, .inl (fun _ => 0)))] sz) := by
  refine Met.ofW (cc := cX16_dropAssumptions) (maxL := 3) (ret := (some .int)) (by decide) rfl ?_
  intro p e s m args below meth c s₁ B hml hv
  obtain ⟨rfl, hsz, hP, hK, hD0, hE⟩ := hv
  have hx := B.exec
  have hb := B.bytes
  have hr := B.returns
  have hts := atoms_spec (ws := vs_k_X16_dropAssumptions) B.pre
  have hown : s.vm.findClass RX16 = some m.cls := findClass_of_methodNamed B.named
  have hlocks := B.notSynchronized
  subst hsz
  have hD := hD0.self (sz := s.heap.size)
  generalize hAe : va_A [(m0, .inr (20, [.int 0, .int 0, .ref m1, .ref m2, .ref m3, .int 0, .ref m4, .ref m5, .ref m6, .int 0, .ref m7, .ref m8, .ref m9, .int 0, .ref m10, .int 0, .ref m11, .ref m12, .ref m13, .int 0, .ref m14, .int 0, .int 0, .int 0, .ref m15, .ref m16])), (m6, .inl (ty 0, 384, .inl (fun _ => 0)))] s.heap.size = A at hD hE ⊢
  have hA : ∀ q : Nat, s.heap.size ≤ q → A q := fun q h => by rw [← hAe]; exact Or.inr h
  have hS : va_S A s.heap s.heap [] := va_S.rf
  have hP : va_P D vwCl [(m0, .inr (20, [.int 0, .int 0, .ref m1, .ref m2, .ref m3, .int 0, .ref m4, .ref m5, .ref m6, .int 0, .ref m7, .ref m8, .ref m9, .int 0, .ref m10, .int 0, .ref m11, .ref m12, .ref m13, .int 0, .ref m14, .int 0, .int 0, .int 0, .ref m15, .ref m16])), (m6, .inl (ty 0, 384, .inl (fun _ => 0)))] s.heap := hP
  have hl := lv_entry ([.ref m0]) (n := 3) (Nat.le_of_ble_eq_true rfl)
  rw [lg_entry_eq]
  generalize (lg_sl ([.ref m0]) ++ List.replicate (3 - (lg_sl ([.ref m0])).length) Slot.unset).toArray = ls at hl ⊢
  have hl : lv_has ls 3 [(0, .ref m0)] := hl
  refine lv_aload_n hx hb dX16_dropAssumptions_0 rfl (lv_at hl 0 rfl) ?_
  refine lv_iconst (v := 0) hx hb dX16_dropAssumptions_1 (by decide) ?_
  refine va_put (D := D) (ci := 20) (v := .int 0) (ty := tyX16 0) (C := RX16) (T := TX16) (N := 26) hx hb hts iv_k_X16_dropAssumptions_X16 tyX16 tyX16_ok nmX16 hown hK hP hD hS 0 rfl rfl 0 (by decide) (hts (.fieldLink RX16 65 "AnswerFoldModel" "thrown" "I") (by decide +kernel)) (fun _ h9 => h9) rfl (by decide +kernel) rfl rfl (Nat.le_of_ble_eq_true rfl) dX16_dropAssumptions_2 (fun H locs hP hD hS => ?_)
  have hP : va_P D vwCl [(m0, .inr (20, [.int 0, .int 0, .ref m1, .ref m2, .ref m3, .int 0, .ref m4, .ref m5, .ref m6, .int 0, .ref m7, .ref m8, .ref m9, .int 0, .ref m10, .int 0, .ref m11, .ref m12, .ref m13, .int 0, .ref m14, .int 0, .int 0, .int 0, .ref m15, .ref m16])), (m6, .inl (ty 0, 384, .inl (fun _ => 0)))] H := hP
  have hD : va_D A [(m0, .inr (20, [.int 0, .int 0, .ref m1, .ref m2, .ref m3, .int 0, .ref m4, .ref m5, .ref m6, .int 0, .ref m7, .ref m8, .ref m9, .int 0, .ref m10, .int 0, .ref m11, .ref m12, .ref m13, .int 0, .ref m14, .int 0, .int 0, .int 0, .ref m15, .ref m16])), (m6, .inl (ty 0, 384, .inl (fun _ => 0)))] := hD
  refine lv_aload_n hx hb dX16_dropAssumptions_5 rfl (lv_at hl 0 rfl) ?_
  refine wq_i (wc := [(m0, .inr (20, [.int 0, .int 0, .ref m1, .ref m2, .ref m3, .int 0, .ref m4, .ref m5, .ref m6, .int 0, .ref m7, .ref m8, .ref m9, .int 0, .ref m10, .int 0, .ref m11, .ref m12, .ref m13, .int 0, .ref m14, .int 0, .int 0, .int 0, .ref m15, .ref m16])), (m6, .inl (ty 0, 384, .inl (fun _ => 0)))]) (wr := []) (va_runV (As := []) (rest := []) ⟨hx, hb, hml, hown, hts⟩ (k_X16_assumptions l D ty td mi H.size m0 m1 m2 m3 m4 m5 m6 m7 m8 m9 m10 m11 m12 m13 m14 m15 m16) (cwV 0 hts gv_k_X16_dropAssumptions_0 rfl rfl rfl (by decide +kernel) ⟨(Nat.le_of_ble_eq_true rfl), (Nat.le_of_ble_eq_true rfl)⟩) (wq_preV hP hD hK hE hS hA [0, 1] rfl (by decide) 0 20 rfl rfl) rfl rfl hl.1 rfl (lv_room (Nat.le_of_ble_eq_true rfl)) dX16_dropAssumptions_6 ⟨(Nat.le_of_ble_eq_true rfl), (Nat.le_of_ble_eq_true rfl)⟩) hS hA hP hD [0, 1] [] rfl rfl (by decide) (by decide) (fun r u H locs hw hP hD hS => ?_)
  obtain ⟨rfl, rfl⟩ := hw
  have hP : va_P D vwCl [(m0, .inr (20, [.int 0, .int 0, .ref m1, .ref m2, .ref m3, .int 0, .ref m4, .ref m5, .ref m6, .int 0, .ref m7, .ref m8, .ref m9, .int 0, .ref m10, .int 0, .ref m11, .ref m12, .ref m13, .int 0, .ref m14, .int 0, .int 0, .int 0, .ref m15, .ref m16])), (m6, .inl (ty 0, 384, .inl (fun _ => 0)))] H := hP
  have hD : va_D A [(m0, .inr (20, [.int 0, .int 0, .ref m1, .ref m2, .ref m3, .int 0, .ref m4, .ref m5, .ref m6, .int 0, .ref m7, .ref m8, .ref m9, .int 0, .ref m10, .int 0, .ref m11, .ref m12, .ref m13, .int 0, .ref m14, .int 0, .int 0, .int 0, .ref m15, .ref m16])), (m6, .inl (ty 0, 384, .inl (fun _ => 0)))] := hD
  refine W.widen (k := 0) (n := 0) (Nat.le_of_ble_eq_true rfl) (Nat.le_of_ble_eq_true rfl) ?_
  refine lv_istore_n (lv' := [(1, .int 0), (0, .ref m0)]) hx hb dX16_dropAssumptions_9 rfl hl (by decide) rfl (fun ls hl => ?_)
  refine lv_iconst (v := 0) hx hb dX16_dropAssumptions_10 (by decide) ?_
  refine lv_istore_n (lv' := [(2, .int 0), (1, .int 0), (0, .ref m0)]) hx hb dX16_dropAssumptions_11 rfl hl (by decide) rfl (fun ls hl => ?_)
  have LOOP : ∀ (n i : Nat), i ≤ 384 → 384 - i < n → ∀ (H : Heap) (locs : List Loc), va_P D vwCl [(m0, .inr (20, [.int 0, .int 0, .ref m1, .ref m2, .ref m3, .int 0, .ref m4, .ref m5, .ref m6, .int 0, .ref m7, .ref m8, .ref m9, .int 0, .ref m10, .int 0, .ref m11, .ref m12, .ref m13, .int 0, .ref m14, .int 0, .int 0, .int 0, .ref m15, .ref m16])), (m6, .inl (ty 0, 384, .inl (fun _ => 0)))] H → va_D A [(m0, .inr (20, [.int 0, .int 0, .ref m1, .ref m2, .ref m3, .int 0, .ref m4, .ref m5, .ref m6, .int 0, .ref m7, .ref m8, .ref m9, .int 0, .ref m10, .int 0, .ref m11, .ref m12, .ref m13, .int 0, .ref m14, .int 0, .int 0, .int 0, .ref m15, .ref m16])), (m6, .inl (ty 0, 384, .inl (fun _ => 0)))] → va_S A s.heap H locs → ∀ ls : Array Slot, lv_has ls 3 [(2, .int (nI i)), (1, .int 0), (0, .ref m0)] → W p l e (headSpec vs_k_X16_dropAssumptions { frames := 1, cells := 0, slots := 0, locals := 22 }).room s m ([.ref m0] : List Value).toArray below meth c H locs 0 0 (MQ below (va_Qi (fun (r : Int32) (u : va_W) => (r = 0 ∧ (u = [(m0, .inr (20, [.int 0, .int 0, .ref m1, .ref m2, .ref m3, .int 0, .ref m4, .ref m5, .ref m6, .int 0, .ref m7, .ref m8, .ref m9, .int 0, .ref m10, .int 0, .ref m11, .ref m12, .ref m13, .int 0, .ref m14, .int 0, .int 0, .int 0, .ref m15, .ref m16]))]))) (wq_B D A) A) ([.ref m0] : List Value).toArray s 0 0 A) (F0 m 12 ls []) := by
    intro n
    induction n with
    | zero => intro i h1 h2; omega
    | succ n ih =>
      intro i hi hn H locs hP hD hS ls hl
      refine lv_iload_n hx hb dX16_dropAssumptions_12 rfl (lv_at hl 0 rfl) ?_
      refine lv_sipush (v := 384) hx hb dX16_dropAssumptions_13 (by decide) ?_
      refine lv_icmp_ge (tgt := 32) hx hb dX16_dropAssumptions_16 (by decide) (fun c0 => ?_) (fun c0 => ?_)
      · have hiN : i = 384 := wq_geN (N := 384) c0 hi (by decide)
        subst hiN
        have hl : lv_has ls 3 [(2, .int 384), (1, .int 0), (0, .ref m0)] := hl
        have hP : va_P D vwCl [(m0, .inr (20, [.int 0, .int 0, .ref m1, .ref m2, .ref m3, .int 0, .ref m4, .ref m5, .ref m6, .int 0, .ref m7, .ref m8, .ref m9, .int 0, .ref m10, .int 0, .ref m11, .ref m12, .ref m13, .int 0, .ref m14, .int 0, .int 0, .int 0, .ref m15, .ref m16])), (m6, .inl (ty 0, 384, .inl (fun _ => 0)))] H := hP
        have hD : va_D A [(m0, .inr (20, [.int 0, .int 0, .ref m1, .ref m2, .ref m3, .int 0, .ref m4, .ref m5, .ref m6, .int 0, .ref m7, .ref m8, .ref m9, .int 0, .ref m10, .int 0, .ref m11, .ref m12, .ref m13, .int 0, .ref m14, .int 0, .int 0, .int 0, .ref m15, .ref m16])), (m6, .inl (ty 0, 384, .inl (fun _ => 0)))] := hD
        refine lv_aload_n hx hb dX16_dropAssumptions_32 rfl (lv_at hl 2 rfl) ?_
        refine lv_iconst (v := 0) hx hb dX16_dropAssumptions_33 (by decide) ?_
        refine va_put (D := D) (ci := 20) (v := .int 0) (ty := tyX16 23) (C := RX16) (T := TX16) (N := 26) hx hb hts iv_k_X16_dropAssumptions_X16 tyX16 tyX16_ok nmX16 hown hK hP hD hS 0 rfl rfl 23 (by decide) (hts (.fieldLink RX16 84 "AnswerFoldModel" "isWalked" "Z") (by decide +kernel)) (fun _ h9 => h9) rfl (by decide +kernel) rfl rfl (Nat.le_of_ble_eq_true rfl) dX16_dropAssumptions_34 (fun H locs hP hD hS => ?_)
        have hP : va_P D vwCl [(m0, .inr (20, [.int 0, .int 0, .ref m1, .ref m2, .ref m3, .int 0, .ref m4, .ref m5, .ref m6, .int 0, .ref m7, .ref m8, .ref m9, .int 0, .ref m10, .int 0, .ref m11, .ref m12, .ref m13, .int 0, .ref m14, .int 0, .int 0, .int 0, .ref m15, .ref m16])), (m6, .inl (ty 0, 384, .inl (fun _ => 0)))] H := hP
        have hD : va_D A [(m0, .inr (20, [.int 0, .int 0, .ref m1, .ref m2, .ref m3, .int 0, .ref m4, .ref m5, .ref m6, .int 0, .ref m7, .ref m8, .ref m9, .int 0, .ref m10, .int 0, .ref m11, .ref m12, .ref m13, .int 0, .ref m14, .int 0, .int 0, .int 0, .ref m15, .ref m16])), (m6, .inl (ty 0, 384, .inl (fun _ => 0)))] := hD
        refine lv_iload_n hx hb dX16_dropAssumptions_37 rfl (lv_at hl 1 rfl) ?_
        have hP9 := hP.sub (ws' := [(m0, .inr (20, [.int 0, .int 0, .ref m1, .ref m2, .ref m3, .int 0, .ref m4, .ref m5, .ref m6, .int 0, .ref m7, .ref m8, .ref m9, .int 0, .ref m10, .int 0, .ref m11, .ref m12, .ref m13, .int 0, .ref m14, .int 0, .int 0, .int 0, .ref m15, .ref m16]))]) [0] rfl
        have hD9 := hD.sub (ws' := [(m0, .inr (20, [.int 0, .int 0, .ref m1, .ref m2, .ref m3, .int 0, .ref m4, .ref m5, .ref m6, .int 0, .ref m7, .ref m8, .ref m9, .int 0, .ref m10, .int 0, .ref m11, .ref m12, .ref m13, .int 0, .ref m14, .int 0, .int 0, .int 0, .ref m15, .ref m16]))]) [0] (by decide) rfl
        refine W.widen (k := 0) (n := 0) (Nat.le_of_ble_eq_true rfl) (Nat.le_of_ble_eq_true rfl) ?_
        exact W.iret (v := 0) hx hb hr (fun t ht hW => ⟨⟨0, [(m0, .inr (20, [.int 0, .int 0, .ref m1, .ref m2, .ref m3, .int 0, .ref m4, .ref m5, .ref m6, .int 0, .ref m7, .ref m8, .ref m9, .int 0, .ref m10, .int 0, .ref m11, .ref m12, .ref m13, .int 0, .ref m14, .int 0, .int 0, .int 0, .ref m15, .ref m16]))], rfl, ⟨rfl, rfl⟩, wq_B.of ht hP9 hD9⟩, hS.F ht⟩) hS.2.2 dX16_dropAssumptions_38
      · have hlt : i < 384 := wq_ltN (N := 384) c0 hi (by decide)
        refine lv_aload_n hx hb dX16_dropAssumptions_19 rfl (lv_at hl 2 rfl) ?_
        refine va_get (D := D) (ci := 20) (v := .ref m6) (C := RX16) (T := TX16) (N := 26) hx hb hts iv_k_X16_dropAssumptions_X16 hown hK hP 0 rfl rfl 8 (by decide) (hts (.fieldLink RX16 30 "AnswerFoldModel" "assumed" "[I") (by decide +kernel)) (fun _ h9 => h9) rfl dX16_dropAssumptions_20 ?_
        refine lv_iload_n hx hb dX16_dropAssumptions_23 rfl (lv_at hl 0 rfl) ?_
        refine lv_iconst (v := 0) hx hb dX16_dropAssumptions_24 (by decide) ?_
        refine va_iast (D := D) hx hb hK hP hD hS 1 0 rfl rfl (by first | assumption | exact vp_in_nI (by omega) (by omega)) dX16_dropAssumptions_25 (fun H locs hP hD hS => ?_)
        rw [wq_upd0] at hP hD
        have hP : va_P D vwCl [(m0, .inr (20, [.int 0, .int 0, .ref m1, .ref m2, .ref m3, .int 0, .ref m4, .ref m5, .ref m6, .int 0, .ref m7, .ref m8, .ref m9, .int 0, .ref m10, .int 0, .ref m11, .ref m12, .ref m13, .int 0, .ref m14, .int 0, .int 0, .int 0, .ref m15, .ref m16])), (m6, .inl (ty 0, 384, .inl (fun _ => 0)))] H := hP
        have hD : va_D A [(m0, .inr (20, [.int 0, .int 0, .ref m1, .ref m2, .ref m3, .int 0, .ref m4, .ref m5, .ref m6, .int 0, .ref m7, .ref m8, .ref m9, .int 0, .ref m10, .int 0, .ref m11, .ref m12, .ref m13, .int 0, .ref m14, .int 0, .int 0, .int 0, .ref m15, .ref m16])), (m6, .inl (ty 0, 384, .inl (fun _ => 0)))] := hD
        refine lv_iinc (v := nI (i + 1)) (lv' := [(2, .int (nI (i + 1))), (1, .int 0), (0, .ref m0)]) hx hb dX16_dropAssumptions_26 hl (k := 0) rfl (by exact nI_1 i) (by decide) rfl (fun ls hl => ?_)
        refine lv_goto (tgt := 12) hx hb dX16_dropAssumptions_29 (by decide) ?_
        have hP : va_P D vwCl [(m0, .inr (20, [.int 0, .int 0, .ref m1, .ref m2, .ref m3, .int 0, .ref m4, .ref m5, .ref m6, .int 0, .ref m7, .ref m8, .ref m9, .int 0, .ref m10, .int 0, .ref m11, .ref m12, .ref m13, .int 0, .ref m14, .int 0, .int 0, .int 0, .ref m15, .ref m16])), (m6, .inl (ty 0, 384, .inl (fun _ => 0)))] H := hP
        have hD : va_D A [(m0, .inr (20, [.int 0, .int 0, .ref m1, .ref m2, .ref m3, .int 0, .ref m4, .ref m5, .ref m6, .int 0, .ref m7, .ref m8, .ref m9, .int 0, .ref m10, .int 0, .ref m11, .ref m12, .ref m13, .int 0, .ref m14, .int 0, .int 0, .int 0, .ref m15, .ref m16])), (m6, .inl (ty 0, 384, .inl (fun _ => 0)))] := hD
        exact ih (i + 1) (by omega) (by omega) _ _ (hP.sub [0, 1] rfl) (hD.sub [0, 1] (by decide) rfl) hS _ (lv_sub hl [0, 1, 2] rfl)
  exact LOOP 385 0 (by omega) (by omega) _ _ hP hD hS _ hl
