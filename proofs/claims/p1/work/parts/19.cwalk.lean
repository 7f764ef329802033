theorem dX0_insert_0 : decode cX0_insert 0 = .ok (.aload_n 0, 1) := by decide +kernel
theorem dX0_insert_1 : decode cX0_insert 1 = .ok (.getfield 19, 3) := by decide +kernel
theorem dX0_insert_4 : decode cX0_insert 4 = .ok (.ifCond .lt 12, 3) := by decide +kernel
theorem dX0_insert_7 : decode cX0_insert 7 = .ok (.aload_n 0, 1) := by decide +kernel
theorem dX0_insert_8 : decode cX0_insert 8 = .ok (.getfield 19, 3) := by decide +kernel
theorem dX0_insert_11 : decode cX0_insert 11 = .ok (.bipush 64, 2) := by decide +kernel
theorem dX0_insert_13 : decode cX0_insert 13 = .ok (.if_icmp .lt 5, 3) := by decide +kernel
theorem dX0_insert_16 : decode cX0_insert 16 = .ok (.iconst 0, 1) := by decide +kernel
theorem dX0_insert_17 : decode cX0_insert 17 = .ok (.ireturn, 1) := by decide +kernel
theorem dX0_insert_18 : decode cX0_insert 18 = .ok (.aload_n 0, 1) := by decide +kernel
theorem dX0_insert_19 : decode cX0_insert 19 = .ok (.getfield 19, 3) := by decide +kernel
theorem dX0_insert_22 : decode cX0_insert 22 = .ok (.istore 8, 2) := by decide +kernel
theorem dX0_insert_24 : decode cX0_insert 24 = .ok (.aload_n 0, 1) := by decide +kernel
theorem dX0_insert_25 : decode cX0_insert 25 = .ok (.getfield 19, 3) := by decide +kernel
theorem dX0_insert_28 : decode cX0_insert 28 = .ok (.istore 9, 2) := by decide +kernel
theorem dX0_insert_30 : decode cX0_insert 30 = .ok (.iload 9, 2) := by decide +kernel
theorem dX0_insert_32 : decode cX0_insert 32 = .ok (.ifCond .le 41, 3) := by decide +kernel
theorem dX0_insert_35 : decode cX0_insert 35 = .ok (.aload_n 0, 1) := by decide +kernel
theorem dX0_insert_36 : decode cX0_insert 36 = .ok (.iload 9, 2) := by decide +kernel
theorem dX0_insert_38 : decode cX0_insert 38 = .ok (.iconst 1, 1) := by decide +kernel
theorem dX0_insert_39 : decode cX0_insert 39 = .ok (.isub, 1) := by decide +kernel
theorem dX0_insert_40 : decode cX0_insert 40 = .ok (.lload_n 2, 1) := by decide +kernel
theorem dX0_insert_41 : decode cX0_insert 41 = .ok (.lload 4, 2) := by decide +kernel
theorem dX0_insert_43 : decode cX0_insert 43 = .ok (.lload 6, 2) := by decide +kernel
theorem dX0_insert_45 : decode cX0_insert 45 = .ok (.invokevirtual 23, 3) := by decide +kernel
theorem dX0_insert_48 : decode cX0_insert 48 = .ok (.ifCond .eq 25, 3) := by decide +kernel
theorem dX0_insert_51 : decode cX0_insert 51 = .ok (.aload_n 0, 1) := by decide +kernel
theorem dX0_insert_52 : decode cX0_insert 52 = .ok (.iload 9, 2) := by decide +kernel
theorem dX0_insert_54 : decode cX0_insert 54 = .ok (.iconst 1, 1) := by decide +kernel
theorem dX0_insert_55 : decode cX0_insert 55 = .ok (.isub, 1) := by decide +kernel
theorem dX0_insert_56 : decode cX0_insert 56 = .ok (.iload 9, 2) := by decide +kernel
theorem dX0_insert_58 : decode cX0_insert 58 = .ok (.invokevirtual 27, 3) := by decide +kernel
theorem dX0_insert_61 : decode cX0_insert 61 = .ok (.iload 9, 2) := by decide +kernel
theorem dX0_insert_63 : decode cX0_insert 63 = .ok (.iconst 1, 1) := by decide +kernel
theorem dX0_insert_64 : decode cX0_insert 64 = .ok (.isub, 1) := by decide +kernel
theorem dX0_insert_65 : decode cX0_insert 65 = .ok (.istore 8, 2) := by decide +kernel
theorem dX0_insert_67 : decode cX0_insert 67 = .ok (.iinc 9 (-1), 3) := by decide +kernel
theorem dX0_insert_70 : decode cX0_insert 70 = .ok (.goto (-40), 3) := by decide +kernel
theorem dX0_insert_73 : decode cX0_insert 73 = .ok (.aload_n 0, 1) := by decide +kernel
theorem dX0_insert_74 : decode cX0_insert 74 = .ok (.getfield 9, 3) := by decide +kernel
theorem dX0_insert_77 : decode cX0_insert 77 = .ok (.iload 8, 2) := by decide +kernel
theorem dX0_insert_79 : decode cX0_insert 79 = .ok (.iload_n 1, 1) := by decide +kernel
theorem dX0_insert_80 : decode cX0_insert 80 = .ok (.iastore, 1) := by decide +kernel
theorem dX0_insert_81 : decode cX0_insert 81 = .ok (.aload_n 0, 1) := by decide +kernel
theorem dX0_insert_82 : decode cX0_insert 82 = .ok (.getfield 15, 3) := by decide +kernel
theorem dX0_insert_85 : decode cX0_insert 85 = .ok (.iload 8, 2) := by decide +kernel
theorem dX0_insert_87 : decode cX0_insert 87 = .ok (.iconst 3, 1) := by decide +kernel
theorem dX0_insert_88 : decode cX0_insert 88 = .ok (.imul, 1) := by decide +kernel
theorem dX0_insert_89 : decode cX0_insert 89 = .ok (.lload_n 2, 1) := by decide +kernel
theorem dX0_insert_90 : decode cX0_insert 90 = .ok (.lastore, 1) := by decide +kernel
theorem dX0_insert_91 : decode cX0_insert 91 = .ok (.aload_n 0, 1) := by decide +kernel
theorem dX0_insert_92 : decode cX0_insert 92 = .ok (.getfield 15, 3) := by decide +kernel
theorem dX0_insert_95 : decode cX0_insert 95 = .ok (.iload 8, 2) := by decide +kernel
theorem dX0_insert_97 : decode cX0_insert 97 = .ok (.iconst 3, 1) := by decide +kernel
theorem dX0_insert_98 : decode cX0_insert 98 = .ok (.imul, 1) := by decide +kernel
theorem dX0_insert_99 : decode cX0_insert 99 = .ok (.iconst 1, 1) := by decide +kernel
theorem dX0_insert_100 : decode cX0_insert 100 = .ok (.iadd, 1) := by decide +kernel
theorem dX0_insert_101 : decode cX0_insert 101 = .ok (.lload 4, 2) := by decide +kernel
theorem dX0_insert_103 : decode cX0_insert 103 = .ok (.lastore, 1) := by decide +kernel
theorem dX0_insert_104 : decode cX0_insert 104 = .ok (.aload_n 0, 1) := by decide +kernel
theorem dX0_insert_105 : decode cX0_insert 105 = .ok (.getfield 15, 3) := by decide +kernel
theorem dX0_insert_108 : decode cX0_insert 108 = .ok (.iload 8, 2) := by decide +kernel
theorem dX0_insert_110 : decode cX0_insert 110 = .ok (.iconst 3, 1) := by decide +kernel
theorem dX0_insert_111 : decode cX0_insert 111 = .ok (.imul, 1) := by decide +kernel
theorem dX0_insert_112 : decode cX0_insert 112 = .ok (.iconst 2, 1) := by decide +kernel
theorem dX0_insert_113 : decode cX0_insert 113 = .ok (.iadd, 1) := by decide +kernel
theorem dX0_insert_114 : decode cX0_insert 114 = .ok (.lload 6, 2) := by decide +kernel
theorem dX0_insert_116 : decode cX0_insert 116 = .ok (.lastore, 1) := by decide +kernel
theorem dX0_insert_117 : decode cX0_insert 117 = .ok (.aload_n 0, 1) := by decide +kernel
theorem dX0_insert_118 : decode cX0_insert 118 = .ok (.dup, 1) := by decide +kernel
theorem dX0_insert_119 : decode cX0_insert 119 = .ok (.getfield 19, 3) := by decide +kernel
theorem dX0_insert_122 : decode cX0_insert 122 = .ok (.iconst 1, 1) := by decide +kernel
theorem dX0_insert_123 : decode cX0_insert 123 = .ok (.iadd, 1) := by decide +kernel
theorem dX0_insert_124 : decode cX0_insert 124 = .ok (.putfield 19, 3) := by decide +kernel
theorem dX0_insert_127 : decode cX0_insert 127 = .ok (.iconst 1, 1) := by decide +kernel
theorem dX0_insert_128 : decode cX0_insert 128 = .ok (.ireturn, 1) := by decide +kernel
theorem dX5_countLoops_0 : decode cX5_countLoops 0 = .ok (.aload_n 0, 1) := by decide +kernel
theorem dX5_countLoops_1 : decode cX5_countLoops 1 = .ok (.getfield 15, 3) := by decide +kernel
theorem dX5_countLoops_4 : decode cX5_countLoops 4 = .ok (.getfield 19, 3) := by decide +kernel
theorem dX5_countLoops_7 : decode cX5_countLoops 7 = .ok (.istore_n 1, 1) := by decide +kernel
theorem dX5_countLoops_8 : decode cX5_countLoops 8 = .ok (.aload_n 0, 1) := by decide +kernel
theorem dX5_countLoops_9 : decode cX5_countLoops 9 = .ok (.iload_n 1, 1) := by decide +kernel
theorem dX5_countLoops_10 : decode cX5_countLoops 10 = .ok (.invokevirtual 25, 3) := by decide +kernel
theorem dX5_countLoops_13 : decode cX5_countLoops 13 = .ok (.iconst 0, 1) := by decide +kernel
theorem dX5_countLoops_14 : decode cX5_countLoops 14 = .ok (.istore_n 2, 1) := by decide +kernel
theorem dX5_countLoops_15 : decode cX5_countLoops 15 = .ok (.iload_n 2, 1) := by decide +kernel
theorem dX5_countLoops_16 : decode cX5_countLoops 16 = .ok (.aload_n 0, 1) := by decide +kernel
theorem dX5_countLoops_17 : decode cX5_countLoops 17 = .ok (.getfield 15, 3) := by decide +kernel
theorem dX5_countLoops_20 : decode cX5_countLoops 20 = .ok (.getfield 29, 3) := by decide +kernel
theorem dX5_countLoops_23 : decode cX5_countLoops 23 = .ok (.if_icmp .ge 14, 3) := by decide +kernel
theorem dX5_countLoops_26 : decode cX5_countLoops 26 = .ok (.aload_n 0, 1) := by decide +kernel
theorem dX5_countLoops_27 : decode cX5_countLoops 27 = .ok (.iload_n 2, 1) := by decide +kernel
theorem dX5_countLoops_28 : decode cX5_countLoops 28 = .ok (.invokevirtual 32, 3) := by decide +kernel
theorem dX5_countLoops_31 : decode cX5_countLoops 31 = .ok (.iinc 2 1, 3) := by decide +kernel
theorem dX5_countLoops_34 : decode cX5_countLoops 34 = .ok (.goto (-19), 3) := by decide +kernel
theorem dX5_countLoops_37 : decode cX5_countLoops 37 = .ok (.iconst 0, 1) := by decide +kernel
theorem dX5_countLoops_38 : decode cX5_countLoops 38 = .ok (.istore_n 2, 1) := by decide +kernel
theorem dX5_countLoops_39 : decode cX5_countLoops 39 = .ok (.iload_n 2, 1) := by decide +kernel
theorem dX5_countLoops_40 : decode cX5_countLoops 40 = .ok (.iload_n 1, 1) := by decide +kernel
theorem dX5_countLoops_41 : decode cX5_countLoops 41 = .ok (.if_icmp .ge 37, 3) := by decide +kernel
theorem dX5_countLoops_44 : decode cX5_countLoops 44 = .ok (.iconst 0, 1) := by decide +kernel
theorem dX5_countLoops_45 : decode cX5_countLoops 45 = .ok (.istore_n 3, 1) := by decide +kernel
theorem dX5_countLoops_46 : decode cX5_countLoops 46 = .ok (.iload_n 3, 1) := by decide +kernel
theorem dX5_countLoops_47 : decode cX5_countLoops 47 = .ok (.iload_n 1, 1) := by decide +kernel
theorem dX5_countLoops_48 : decode cX5_countLoops 48 = .ok (.if_icmp .ge 24, 3) := by decide +kernel
theorem dX5_countLoops_51 : decode cX5_countLoops 51 = .ok (.aload_n 0, 1) := by decide +kernel
theorem dX5_countLoops_52 : decode cX5_countLoops 52 = .ok (.iload_n 3, 1) := by decide +kernel
theorem dX5_countLoops_53 : decode cX5_countLoops 53 = .ok (.iload_n 2, 1) := by decide +kernel
theorem dX5_countLoops_54 : decode cX5_countLoops 54 = .ok (.invokevirtual 35, 3) := by decide +kernel
theorem dX5_countLoops_57 : decode cX5_countLoops 57 = .ok (.ifCond .eq 9, 3) := by decide +kernel
theorem dX5_countLoops_60 : decode cX5_countLoops 60 = .ok (.aload_n 0, 1) := by decide +kernel
theorem dX5_countLoops_61 : decode cX5_countLoops 61 = .ok (.iload_n 3, 1) := by decide +kernel
theorem dX5_countLoops_62 : decode cX5_countLoops 62 = .ok (.iload_n 2, 1) := by decide +kernel
theorem dX5_countLoops_63 : decode cX5_countLoops 63 = .ok (.invokevirtual 39, 3) := by decide +kernel
theorem dX5_countLoops_66 : decode cX5_countLoops 66 = .ok (.iinc 3 1, 3) := by decide +kernel
theorem dX5_countLoops_69 : decode cX5_countLoops 69 = .ok (.goto (-23), 3) := by decide +kernel
theorem dX5_countLoops_72 : decode cX5_countLoops 72 = .ok (.iinc 2 1, 3) := by decide +kernel
theorem dX5_countLoops_75 : decode cX5_countLoops 75 = .ok (.goto (-36), 3) := by decide +kernel
theorem dX5_countLoops_78 : decode cX5_countLoops 78 = .ok (.iconst 0, 1) := by decide +kernel
theorem dX5_countLoops_79 : decode cX5_countLoops 79 = .ok (.istore_n 2, 1) := by decide +kernel
theorem dX5_countLoops_80 : decode cX5_countLoops 80 = .ok (.iconst 0, 1) := by decide +kernel
theorem dX5_countLoops_81 : decode cX5_countLoops 81 = .ok (.istore_n 3, 1) := by decide +kernel
theorem dX5_countLoops_82 : decode cX5_countLoops 82 = .ok (.iload_n 3, 1) := by decide +kernel
theorem dX5_countLoops_83 : decode cX5_countLoops 83 = .ok (.iload_n 1, 1) := by decide +kernel
theorem dX5_countLoops_84 : decode cX5_countLoops 84 = .ok (.if_icmp .ge 29, 3) := by decide +kernel
theorem dX5_countLoops_87 : decode cX5_countLoops 87 = .ok (.aload_n 0, 1) := by decide +kernel
theorem dX5_countLoops_88 : decode cX5_countLoops 88 = .ok (.iload_n 3, 1) := by decide +kernel
theorem dX5_countLoops_89 : decode cX5_countLoops 89 = .ok (.iload_n 3, 1) := by decide +kernel
theorem dX5_countLoops_90 : decode cX5_countLoops 90 = .ok (.invokevirtual 35, 3) := by decide +kernel
theorem dX5_countLoops_93 : decode cX5_countLoops 93 = .ok (.ifCond .eq 14, 3) := by decide +kernel
theorem dX5_countLoops_96 : decode cX5_countLoops 96 = .ok (.aload_n 0, 1) := by decide +kernel
theorem dX5_countLoops_97 : decode cX5_countLoops 97 = .ok (.iload_n 3, 1) := by decide +kernel
theorem dX5_countLoops_98 : decode cX5_countLoops 98 = .ok (.invokevirtual 43, 3) := by decide +kernel
theorem dX5_countLoops_101 : decode cX5_countLoops 101 = .ok (.ifCond .eq 6, 3) := by decide +kernel
theorem dX5_countLoops_104 : decode cX5_countLoops 104 = .ok (.iinc 2 1, 3) := by decide +kernel
theorem dX5_countLoops_107 : decode cX5_countLoops 107 = .ok (.iinc 3 1, 3) := by decide +kernel
theorem dX5_countLoops_110 : decode cX5_countLoops 110 = .ok (.goto (-28), 3) := by decide +kernel
theorem dX5_countLoops_113 : decode cX5_countLoops 113 = .ok (.iload_n 2, 1) := by decide +kernel
theorem dX5_countLoops_114 : decode cX5_countLoops 114 = .ok (.ireturn, 1) := by decide +kernel
theorem dX5_clearRows_0 : decode cX5_clearRows 0 = .ok (.iconst 0, 1) := by decide +kernel
theorem dX5_clearRows_1 : decode cX5_clearRows 1 = .ok (.istore_n 2, 1) := by decide +kernel
theorem dX5_clearRows_2 : decode cX5_clearRows 2 = .ok (.iload_n 2, 1) := by decide +kernel
theorem dX5_clearRows_3 : decode cX5_clearRows 3 = .ok (.iload_n 1, 1) := by decide +kernel
theorem dX5_clearRows_4 : decode cX5_clearRows 4 = .ok (.bipush 6, 2) := by decide +kernel
theorem dX5_clearRows_6 : decode cX5_clearRows 6 = .ok (.imul, 1) := by decide +kernel
theorem dX5_clearRows_7 : decode cX5_clearRows 7 = .ok (.if_icmp .ge 25, 3) := by decide +kernel
theorem dX5_clearRows_10 : decode cX5_clearRows 10 = .ok (.iload_n 2, 1) := by decide +kernel
theorem dX5_clearRows_11 : decode cX5_clearRows 11 = .ok (.aload_n 0, 1) := by decide +kernel
theorem dX5_clearRows_12 : decode cX5_clearRows 12 = .ok (.getfield 9, 3) := by decide +kernel
theorem dX5_clearRows_15 : decode cX5_clearRows 15 = .ok (.arraylength, 1) := by decide +kernel
theorem dX5_clearRows_16 : decode cX5_clearRows 16 = .ok (.if_icmp .ge 16, 3) := by decide +kernel
theorem dX5_clearRows_19 : decode cX5_clearRows 19 = .ok (.aload_n 0, 1) := by decide +kernel
theorem dX5_clearRows_20 : decode cX5_clearRows 20 = .ok (.getfield 9, 3) := by decide +kernel
theorem dX5_clearRows_23 : decode cX5_clearRows 23 = .ok (.iload_n 2, 1) := by decide +kernel
theorem dX5_clearRows_24 : decode cX5_clearRows 24 = .ok (.lconst 0, 1) := by decide +kernel
theorem dX5_clearRows_25 : decode cX5_clearRows 25 = .ok (.lastore, 1) := by decide +kernel
theorem dX5_clearRows_26 : decode cX5_clearRows 26 = .ok (.iinc 2 1, 3) := by decide +kernel
theorem dX5_clearRows_29 : decode cX5_clearRows 29 = .ok (.goto (-27), 3) := by decide +kernel
theorem dX5_clearRows_32 : decode cX5_clearRows 32 = .ok (.return_, 1) := by decide +kernel
theorem dX9_prepare_0 : decode cX9_prepare 0 = .ok (.aload_n 0, 1) := by decide +kernel
theorem dX9_prepare_1 : decode cX9_prepare 1 = .ok (.getfield 42, 3) := by decide +kernel
theorem dX9_prepare_4 : decode cX9_prepare 4 = .ok (.ifCond .ne 12, 3) := by decide +kernel
theorem dX9_prepare_7 : decode cX9_prepare 7 = .ok (.aload_n 0, 1) := by decide +kernel
theorem dX9_prepare_8 : decode cX9_prepare 8 = .ok (.invokevirtual 46, 3) := by decide +kernel
theorem dX9_prepare_11 : decode cX9_prepare 11 = .ok (.aload_n 0, 1) := by decide +kernel
theorem dX9_prepare_12 : decode cX9_prepare 12 = .ok (.iconst 1, 1) := by decide +kernel
theorem dX9_prepare_13 : decode cX9_prepare 13 = .ok (.putfield 42, 3) := by decide +kernel
theorem dX9_prepare_16 : decode cX9_prepare 16 = .ok (.aload_n 0, 1) := by decide +kernel
theorem dX9_prepare_17 : decode cX9_prepare 17 = .ok (.aload_n 1, 1) := by decide +kernel
theorem dX9_prepare_18 : decode cX9_prepare 18 = .ok (.aload_n 2, 1) := by decide +kernel
theorem dX9_prepare_19 : decode cX9_prepare 19 = .ok (.invokevirtual 49, 3) := by decide +kernel
theorem dX9_prepare_22 : decode cX9_prepare 22 = .ok (.return_, 1) := by decide +kernel
theorem dX9_compile_0 : decode cX9_compile 0 = .ok (.iconst 0, 1) := by decide +kernel
theorem dX9_compile_1 : decode cX9_compile 1 = .ok (.istore_n 1, 1) := by decide +kernel
theorem dX9_compile_2 : decode cX9_compile 2 = .ok (.iload_n 1, 1) := by decide +kernel
theorem dX9_compile_3 : decode cX9_compile 3 = .ok (.bipush 6, 2) := by decide +kernel
theorem dX9_compile_5 : decode cX9_compile 5 = .ok (.if_icmp .ge 33, 3) := by decide +kernel
theorem dX9_compile_8 : decode cX9_compile 8 = .ok (.aload_n 0, 1) := by decide +kernel
theorem dX9_compile_9 : decode cX9_compile 9 = .ok (.getfield 25, 3) := by decide +kernel
theorem dX9_compile_12 : decode cX9_compile 12 = .ok (.iload_n 1, 1) := by decide +kernel
theorem dX9_compile_13 : decode cX9_compile 13 = .ok (.iconst 0, 1) := by decide +kernel
theorem dX9_compile_14 : decode cX9_compile 14 = .ok (.iastore, 1) := by decide +kernel
theorem dX9_compile_15 : decode cX9_compile 15 = .ok (.aload_n 0, 1) := by decide +kernel
theorem dX9_compile_16 : decode cX9_compile 16 = .ok (.getfield 28, 3) := by decide +kernel
theorem dX9_compile_19 : decode cX9_compile 19 = .ok (.iload_n 1, 1) := by decide +kernel
theorem dX9_compile_20 : decode cX9_compile 20 = .ok (.aload_n 0, 1) := by decide +kernel
theorem dX9_compile_21 : decode cX9_compile 21 = .ok (.getfield 38, 3) := by decide +kernel
theorem dX9_compile_24 : decode cX9_compile 24 = .ok (.getfield 53, 3) := by decide +kernel
theorem dX9_compile_27 : decode cX9_compile 27 = .ok (.iload_n 1, 1) := by decide +kernel
theorem dX9_compile_28 : decode cX9_compile 28 = .ok (.invokevirtual 59, 3) := by decide +kernel
theorem dX9_compile_31 : decode cX9_compile 31 = .ok (.iastore, 1) := by decide +kernel
theorem dX9_compile_32 : decode cX9_compile 32 = .ok (.iinc 1 1, 3) := by decide +kernel
theorem dX9_compile_35 : decode cX9_compile 35 = .ok (.goto (-33), 3) := by decide +kernel
theorem dX9_compile_38 : decode cX9_compile 38 = .ok (.iconst 0, 1) := by decide +kernel
theorem dX9_compile_39 : decode cX9_compile 39 = .ok (.istore_n 1, 1) := by decide +kernel
theorem dX9_compile_40 : decode cX9_compile 40 = .ok (.iload_n 1, 1) := by decide +kernel
theorem dX9_compile_41 : decode cX9_compile 41 = .ok (.aload_n 0, 1) := by decide +kernel
theorem dX9_compile_42 : decode cX9_compile 42 = .ok (.getfield 38, 3) := by decide +kernel
theorem dX9_compile_45 : decode cX9_compile 45 = .ok (.getfield 65, 3) := by decide +kernel
theorem dX9_compile_48 : decode cX9_compile 48 = .ok (.if_icmp .ge 46, 3) := by decide +kernel
theorem dX9_compile_51 : decode cX9_compile 51 = .ok (.aload_n 0, 1) := by decide +kernel
theorem dX9_compile_52 : decode cX9_compile 52 = .ok (.getfield 38, 3) := by decide +kernel
theorem dX9_compile_55 : decode cX9_compile 55 = .ok (.iload_n 1, 1) := by decide +kernel
theorem dX9_compile_56 : decode cX9_compile 56 = .ok (.invokevirtual 69, 3) := by decide +kernel
theorem dX9_compile_59 : decode cX9_compile 59 = .ok (.istore_n 2, 1) := by decide +kernel
theorem dX9_compile_60 : decode cX9_compile 60 = .ok (.iload_n 2, 1) := by decide +kernel
theorem dX9_compile_61 : decode cX9_compile 61 = .ok (.ifCond .lt 27, 3) := by decide +kernel
theorem dX9_compile_64 : decode cX9_compile 64 = .ok (.iload_n 2, 1) := by decide +kernel
theorem dX9_compile_65 : decode cX9_compile 65 = .ok (.sipush 384, 3) := by decide +kernel
theorem dX9_compile_68 : decode cX9_compile 68 = .ok (.if_icmp .ge 20, 3) := by decide +kernel
theorem dX9_compile_71 : decode cX9_compile 71 = .ok (.aload_n 0, 1) := by decide +kernel
theorem dX9_compile_72 : decode cX9_compile 72 = .ok (.getfield 25, 3) := by decide +kernel
theorem dX9_compile_75 : decode cX9_compile 75 = .ok (.iload_n 2, 1) := by decide +kernel
theorem dX9_compile_76 : decode cX9_compile 76 = .ok (.bipush 64, 2) := by decide +kernel
theorem dX9_compile_78 : decode cX9_compile 78 = .ok (.idiv, 1) := by decide +kernel
theorem dX9_compile_79 : decode cX9_compile 79 = .ok (.dup2, 1) := by decide +kernel
theorem dX9_compile_80 : decode cX9_compile 80 = .ok (.iaload, 1) := by decide +kernel
theorem dX9_compile_81 : decode cX9_compile 81 = .ok (.aload_n 0, 1) := by decide +kernel
theorem dX9_compile_82 : decode cX9_compile 82 = .ok (.iload_n 2, 1) := by decide +kernel
theorem dX9_compile_83 : decode cX9_compile 83 = .ok (.invokevirtual 72, 3) := by decide +kernel
theorem dX9_compile_86 : decode cX9_compile 86 = .ok (.ior, 1) := by decide +kernel
theorem dX9_compile_87 : decode cX9_compile 87 = .ok (.iastore, 1) := by decide +kernel
theorem dX9_compile_88 : decode cX9_compile 88 = .ok (.iinc 1 1, 3) := by decide +kernel
theorem dX9_compile_91 : decode cX9_compile 91 = .ok (.goto (-51), 3) := by decide +kernel
theorem dX9_compile_94 : decode cX9_compile 94 = .ok (.aload_n 0, 1) := by decide +kernel
theorem dX9_compile_95 : decode cX9_compile 95 = .ok (.iconst 0, 1) := by decide +kernel
theorem dX9_compile_96 : decode cX9_compile 96 = .ok (.putfield 75, 3) := by decide +kernel
theorem dX9_compile_99 : decode cX9_compile 99 = .ok (.iconst 0, 1) := by decide +kernel
theorem dX9_compile_100 : decode cX9_compile 100 = .ok (.istore_n 1, 1) := by decide +kernel
theorem dX9_compile_101 : decode cX9_compile 101 = .ok (.iload_n 1, 1) := by decide +kernel
theorem dX9_compile_102 : decode cX9_compile 102 = .ok (.aload_n 0, 1) := by decide +kernel
theorem dX9_compile_103 : decode cX9_compile 103 = .ok (.getfield 34, 3) := by decide +kernel
theorem dX9_compile_106 : decode cX9_compile 106 = .ok (.getfield 78, 3) := by decide +kernel
theorem dX9_compile_109 : decode cX9_compile 109 = .ok (.if_icmp .ge 43, 3) := by decide +kernel
theorem dX9_compile_112 : decode cX9_compile 112 = .ok (.aload_n 0, 1) := by decide +kernel
theorem dX9_compile_113 : decode cX9_compile 113 = .ok (.getfield 34, 3) := by decide +kernel
theorem dX9_compile_116 : decode cX9_compile 116 = .ok (.iload_n 1, 1) := by decide +kernel
theorem dX9_compile_117 : decode cX9_compile 117 = .ok (.invokevirtual 83, 3) := by decide +kernel
theorem dX9_compile_120 : decode cX9_compile 120 = .ok (.bipush 117, 2) := by decide +kernel
theorem dX9_compile_122 : decode cX9_compile 122 = .ok (.if_icmp .ne 24, 3) := by decide +kernel
theorem dX9_compile_125 : decode cX9_compile 125 = .ok (.aload_n 0, 1) := by decide +kernel
theorem dX9_compile_126 : decode cX9_compile 126 = .ok (.dup, 1) := by decide +kernel
theorem dX9_compile_127 : decode cX9_compile 127 = .ok (.getfield 75, 3) := by decide +kernel
theorem dX9_compile_130 : decode cX9_compile 130 = .ok (.aload_n 0, 1) := by decide +kernel
theorem dX9_compile_131 : decode cX9_compile 131 = .ok (.aload_n 0, 1) := by decide +kernel
theorem dX9_compile_132 : decode cX9_compile 132 = .ok (.getfield 34, 3) := by decide +kernel
theorem dX9_compile_135 : decode cX9_compile 135 = .ok (.iload_n 1, 1) := by decide +kernel
theorem dX9_compile_136 : decode cX9_compile 136 = .ok (.invokevirtual 87, 3) := by decide +kernel
theorem dX9_compile_139 : decode cX9_compile 139 = .ok (.invokevirtual 72, 3) := by decide +kernel
theorem dX9_compile_142 : decode cX9_compile 142 = .ok (.ior, 1) := by decide +kernel
theorem dX9_compile_143 : decode cX9_compile 143 = .ok (.putfield 75, 3) := by decide +kernel
theorem dX9_compile_146 : decode cX9_compile 146 = .ok (.iinc 1 1, 3) := by decide +kernel
theorem dX9_compile_149 : decode cX9_compile 149 = .ok (.goto (-48), 3) := by decide +kernel
theorem dX9_compile_152 : decode cX9_compile 152 = .ok (.aload_n 0, 1) := by decide +kernel
theorem dX9_compile_153 : decode cX9_compile 153 = .ok (.invokevirtual 90, 3) := by decide +kernel
theorem dX9_compile_156 : decode cX9_compile 156 = .ok (.aload_n 0, 1) := by decide +kernel
theorem dX9_compile_157 : decode cX9_compile 157 = .ok (.getfield 12, 3) := by decide +kernel
theorem dX9_compile_160 : decode cX9_compile 160 = .ok (.iconst 0, 1) := by decide +kernel
theorem dX9_compile_161 : decode cX9_compile 161 = .ok (.putfield 93, 3) := by decide +kernel
theorem dX9_compile_164 : decode cX9_compile 164 = .ok (.aload_n 0, 1) := by decide +kernel
theorem dX9_compile_165 : decode cX9_compile 165 = .ok (.getfield 18, 3) := by decide +kernel
theorem dX9_compile_168 : decode cX9_compile 168 = .ok (.iconst 0, 1) := by decide +kernel
theorem dX9_compile_169 : decode cX9_compile 169 = .ok (.putfield 93, 3) := by decide +kernel
theorem dX9_compile_172 : decode cX9_compile 172 = .ok (.iconst 0, 1) := by decide +kernel
theorem dX9_compile_173 : decode cX9_compile 173 = .ok (.istore_n 1, 1) := by decide +kernel
theorem dX9_compile_174 : decode cX9_compile 174 = .ok (.iload_n 1, 1) := by decide +kernel
theorem dX9_compile_175 : decode cX9_compile 175 = .ok (.aload_n 0, 1) := by decide +kernel
theorem dX9_compile_176 : decode cX9_compile 176 = .ok (.getfield 38, 3) := by decide +kernel
theorem dX9_compile_179 : decode cX9_compile 179 = .ok (.getfield 96, 3) := by decide +kernel
theorem dX9_compile_182 : decode cX9_compile 182 = .ok (.if_icmp .ge 14, 3) := by decide +kernel
theorem dX9_compile_185 : decode cX9_compile 185 = .ok (.aload_n 0, 1) := by decide +kernel
theorem dX9_compile_186 : decode cX9_compile 186 = .ok (.iload_n 1, 1) := by decide +kernel
theorem dX9_compile_187 : decode cX9_compile 187 = .ok (.invokevirtual 99, 3) := by decide +kernel
theorem dX9_compile_190 : decode cX9_compile 190 = .ok (.iinc 1 1, 3) := by decide +kernel
theorem dX9_compile_193 : decode cX9_compile 193 = .ok (.goto (-19), 3) := by decide +kernel
theorem dX9_compile_196 : decode cX9_compile 196 = .ok (.aload_n 0, 1) := by decide +kernel
theorem dX9_compile_197 : decode cX9_compile 197 = .ok (.iconst 0, 1) := by decide +kernel
theorem dX9_compile_198 : decode cX9_compile 198 = .ok (.putfield 103, 3) := by decide +kernel
theorem dX9_compile_201 : decode cX9_compile 201 = .ok (.return_, 1) := by decide +kernel
theorem dX9_noteRules_0 : decode cX9_noteRules 0 = .ok (.aload_n 0, 1) := by decide +kernel
theorem dX9_noteRules_1 : decode cX9_noteRules 1 = .ok (.iconst 0, 1) := by decide +kernel
theorem dX9_noteRules_2 : decode cX9_noteRules 2 = .ok (.putfield 106, 3) := by decide +kernel
theorem dX9_noteRules_5 : decode cX9_noteRules 5 = .ok (.aload_n 0, 1) := by decide +kernel
theorem dX9_noteRules_6 : decode cX9_noteRules 6 = .ok (.iconst 0, 1) := by decide +kernel
theorem dX9_noteRules_7 : decode cX9_noteRules 7 = .ok (.putfield 109, 3) := by decide +kernel
theorem dX9_noteRules_10 : decode cX9_noteRules 10 = .ok (.iconst 0, 1) := by decide +kernel
theorem dX9_noteRules_11 : decode cX9_noteRules 11 = .ok (.istore_n 1, 1) := by decide +kernel
theorem dX9_noteRules_12 : decode cX9_noteRules 12 = .ok (.iload_n 1, 1) := by decide +kernel
theorem dX9_noteRules_13 : decode cX9_noteRules 13 = .ok (.aload_n 0, 1) := by decide +kernel
theorem dX9_noteRules_14 : decode cX9_noteRules 14 = .ok (.getfield 34, 3) := by decide +kernel
theorem dX9_noteRules_17 : decode cX9_noteRules 17 = .ok (.getfield 112, 3) := by decide +kernel
theorem dX9_noteRules_20 : decode cX9_noteRules 20 = .ok (.if_icmp .ge 65, 3) := by decide +kernel
theorem dX9_noteRules_23 : decode cX9_noteRules 23 = .ok (.aload_n 0, 1) := by decide +kernel
theorem dX9_noteRules_24 : decode cX9_noteRules 24 = .ok (.getfield 34, 3) := by decide +kernel
theorem dX9_noteRules_27 : decode cX9_noteRules 27 = .ok (.iload_n 1, 1) := by decide +kernel
theorem dX9_noteRules_28 : decode cX9_noteRules 28 = .ok (.invokevirtual 115, 3) := by decide +kernel
theorem dX9_noteRules_31 : decode cX9_noteRules 31 = .ok (.astore_n 2, 1) := by decide +kernel
theorem dX9_noteRules_32 : decode cX9_noteRules 32 = .ok (.aload_n 2, 1) := by decide +kernel
theorem dX9_noteRules_33 : decode cX9_noteRules 33 = .ok (.ifnonnull 6, 3) := by decide +kernel
theorem dX9_noteRules_36 : decode cX9_noteRules 36 = .ok (.goto 43, 3) := by decide +kernel
theorem dX9_noteRules_39 : decode cX9_noteRules 39 = .ok (.aload_n 2, 1) := by decide +kernel
theorem dX9_noteRules_40 : decode cX9_noteRules 40 = .ok (.getfield 119, 3) := by decide +kernel
theorem dX9_noteRules_43 : decode cX9_noteRules 43 = .ok (.bipush 99, 2) := by decide +kernel
theorem dX9_noteRules_45 : decode cX9_noteRules 45 = .ok (.if_icmp .ne 15, 3) := by decide +kernel
theorem dX9_noteRules_48 : decode cX9_noteRules 48 = .ok (.aload_n 0, 1) := by decide +kernel
theorem dX9_noteRules_49 : decode cX9_noteRules 49 = .ok (.dup, 1) := by decide +kernel
theorem dX9_noteRules_50 : decode cX9_noteRules 50 = .ok (.getfield 106, 3) := by decide +kernel
theorem dX9_noteRules_53 : decode cX9_noteRules 53 = .ok (.iconst 1, 1) := by decide +kernel
theorem dX9_noteRules_54 : decode cX9_noteRules 54 = .ok (.iload_n 1, 1) := by decide +kernel
theorem dX9_noteRules_55 : decode cX9_noteRules 55 = .ok (.ishl, 1) := by decide +kernel
theorem dX9_noteRules_56 : decode cX9_noteRules 56 = .ok (.ior, 1) := by decide +kernel
theorem dX9_noteRules_57 : decode cX9_noteRules 57 = .ok (.putfield 106, 3) := by decide +kernel
theorem dX9_noteRules_60 : decode cX9_noteRules 60 = .ok (.aload_n 2, 1) := by decide +kernel
theorem dX9_noteRules_61 : decode cX9_noteRules 61 = .ok (.invokevirtual 125, 3) := by decide +kernel
theorem dX9_noteRules_64 : decode cX9_noteRules 64 = .ok (.ifCond .eq 15, 3) := by decide +kernel
theorem dX9_noteRules_67 : decode cX9_noteRules 67 = .ok (.aload_n 0, 1) := by decide +kernel
theorem dX9_noteRules_68 : decode cX9_noteRules 68 = .ok (.dup, 1) := by decide +kernel
theorem dX9_noteRules_69 : decode cX9_noteRules 69 = .ok (.getfield 109, 3) := by decide +kernel
theorem dX9_noteRules_72 : decode cX9_noteRules 72 = .ok (.iconst 1, 1) := by decide +kernel
theorem dX9_noteRules_73 : decode cX9_noteRules 73 = .ok (.iload_n 1, 1) := by decide +kernel
theorem dX9_noteRules_74 : decode cX9_noteRules 74 = .ok (.ishl, 1) := by decide +kernel
theorem dX9_noteRules_75 : decode cX9_noteRules 75 = .ok (.ior, 1) := by decide +kernel
theorem dX9_noteRules_76 : decode cX9_noteRules 76 = .ok (.putfield 109, 3) := by decide +kernel
theorem dX9_noteRules_79 : decode cX9_noteRules 79 = .ok (.iinc 1 1, 3) := by decide +kernel
theorem dX9_noteRules_82 : decode cX9_noteRules 82 = .ok (.goto (-70), 3) := by decide +kernel
theorem dX9_noteRules_85 : decode cX9_noteRules 85 = .ok (.return_, 1) := by decide +kernel
theorem dX9_fitAssumptions_0 : decode cX9_fitAssumptions 0 = .ok (.aload_n 0, 1) := by decide +kernel
theorem dX9_fitAssumptions_1 : decode cX9_fitAssumptions 1 = .ok (.iconst 0, 1) := by decide +kernel
theorem dX9_fitAssumptions_2 : decode cX9_fitAssumptions 2 = .ok (.putfield 182, 3) := by decide +kernel
theorem dX9_fitAssumptions_5 : decode cX9_fitAssumptions 5 = .ok (.aload_n 0, 1) := by decide +kernel
theorem dX9_fitAssumptions_6 : decode cX9_fitAssumptions 6 = .ok (.iconst 0, 1) := by decide +kernel
theorem dX9_fitAssumptions_7 : decode cX9_fitAssumptions 7 = .ok (.putfield 185, 3) := by decide +kernel
theorem dX9_fitAssumptions_10 : decode cX9_fitAssumptions 10 = .ok (.aload_n 0, 1) := by decide +kernel
theorem dX9_fitAssumptions_11 : decode cX9_fitAssumptions 11 = .ok (.iconst 0, 1) := by decide +kernel
theorem dX9_fitAssumptions_12 : decode cX9_fitAssumptions 12 = .ok (.putfield 188, 3) := by decide +kernel
theorem dX9_fitAssumptions_15 : decode cX9_fitAssumptions 15 = .ok (.iconst 0, 1) := by decide +kernel
theorem dX9_fitAssumptions_16 : decode cX9_fitAssumptions 16 = .ok (.istore_n 3, 1) := by decide +kernel
theorem dX9_fitAssumptions_17 : decode cX9_fitAssumptions 17 = .ok (.iload_n 3, 1) := by decide +kernel
theorem dX9_fitAssumptions_18 : decode cX9_fitAssumptions 18 = .ok (.sipush 384, 3) := by decide +kernel
theorem dX9_fitAssumptions_21 : decode cX9_fitAssumptions 21 = .ok (.if_icmp .ge 113, 3) := by decide +kernel
theorem dX9_fitAssumptions_24 : decode cX9_fitAssumptions 24 = .ok (.aload_n 1, 1) := by decide +kernel
theorem dX9_fitAssumptions_25 : decode cX9_fitAssumptions 25 = .ok (.iload_n 3, 1) := by decide +kernel
theorem dX9_fitAssumptions_26 : decode cX9_fitAssumptions 26 = .ok (.invokevirtual 191, 3) := by decide +kernel
theorem dX9_fitAssumptions_29 : decode cX9_fitAssumptions 29 = .ok (.ifCond .eq 47, 3) := by decide +kernel
theorem dX9_fitAssumptions_32 : decode cX9_fitAssumptions 32 = .ok (.aload_n 0, 1) := by decide +kernel
theorem dX9_fitAssumptions_33 : decode cX9_fitAssumptions 33 = .ok (.dup, 1) := by decide +kernel
theorem dX9_fitAssumptions_34 : decode cX9_fitAssumptions 34 = .ok (.getfield 182, 3) := by decide +kernel
theorem dX9_fitAssumptions_37 : decode cX9_fitAssumptions 37 = .ok (.aload_n 0, 1) := by decide +kernel
theorem dX9_fitAssumptions_38 : decode cX9_fitAssumptions 38 = .ok (.iload_n 3, 1) := by decide +kernel
theorem dX9_fitAssumptions_39 : decode cX9_fitAssumptions 39 = .ok (.invokevirtual 72, 3) := by decide +kernel
theorem dX9_fitAssumptions_42 : decode cX9_fitAssumptions 42 = .ok (.ior, 1) := by decide +kernel
theorem dX9_fitAssumptions_43 : decode cX9_fitAssumptions 43 = .ok (.putfield 182, 3) := by decide +kernel
theorem dX9_fitAssumptions_46 : decode cX9_fitAssumptions 46 = .ok (.aload_n 0, 1) := by decide +kernel
theorem dX9_fitAssumptions_47 : decode cX9_fitAssumptions 47 = .ok (.aload_n 0, 1) := by decide +kernel
theorem dX9_fitAssumptions_48 : decode cX9_fitAssumptions 48 = .ok (.getfield 188, 3) := by decide +kernel
theorem dX9_fitAssumptions_51 : decode cX9_fitAssumptions 51 = .ok (.ifCond .ne 17, 3) := by decide +kernel
theorem dX9_fitAssumptions_54 : decode cX9_fitAssumptions 54 = .ok (.aload_n 0, 1) := by decide +kernel
theorem dX9_fitAssumptions_55 : decode cX9_fitAssumptions 55 = .ok (.getfield 38, 3) := by decide +kernel
theorem dX9_fitAssumptions_58 : decode cX9_fitAssumptions 58 = .ok (.getfield 195, 3) := by decide +kernel
theorem dX9_fitAssumptions_61 : decode cX9_fitAssumptions 61 = .ok (.iload_n 3, 1) := by decide +kernel
theorem dX9_fitAssumptions_62 : decode cX9_fitAssumptions 62 = .ok (.invokevirtual 191, 3) := by decide +kernel
theorem dX9_fitAssumptions_65 : decode cX9_fitAssumptions 65 = .ok (.ifCond .ne 7, 3) := by decide +kernel
theorem dX9_fitAssumptions_68 : decode cX9_fitAssumptions 68 = .ok (.iconst 1, 1) := by decide +kernel
theorem dX9_fitAssumptions_69 : decode cX9_fitAssumptions 69 = .ok (.goto 4, 3) := by decide +kernel
theorem dX9_fitAssumptions_72 : decode cX9_fitAssumptions 72 = .ok (.iconst 0, 1) := by decide +kernel
theorem dX9_fitAssumptions_73 : decode cX9_fitAssumptions 73 = .ok (.putfield 188, 3) := by decide +kernel
theorem dX9_fitAssumptions_76 : decode cX9_fitAssumptions 76 = .ok (.aload_n 2, 1) := by decide +kernel
theorem dX9_fitAssumptions_77 : decode cX9_fitAssumptions 77 = .ok (.iload_n 3, 1) := by decide +kernel
theorem dX9_fitAssumptions_78 : decode cX9_fitAssumptions 78 = .ok (.invokevirtual 191, 3) := by decide +kernel
theorem dX9_fitAssumptions_81 : decode cX9_fitAssumptions 81 = .ok (.ifCond .eq 47, 3) := by decide +kernel
theorem dX9_fitAssumptions_84 : decode cX9_fitAssumptions 84 = .ok (.aload_n 0, 1) := by decide +kernel
theorem dX9_fitAssumptions_85 : decode cX9_fitAssumptions 85 = .ok (.dup, 1) := by decide +kernel
theorem dX9_fitAssumptions_86 : decode cX9_fitAssumptions 86 = .ok (.getfield 185, 3) := by decide +kernel
theorem dX9_fitAssumptions_89 : decode cX9_fitAssumptions 89 = .ok (.aload_n 0, 1) := by decide +kernel
theorem dX9_fitAssumptions_90 : decode cX9_fitAssumptions 90 = .ok (.iload_n 3, 1) := by decide +kernel
theorem dX9_fitAssumptions_91 : decode cX9_fitAssumptions 91 = .ok (.invokevirtual 72, 3) := by decide +kernel
theorem dX9_fitAssumptions_94 : decode cX9_fitAssumptions 94 = .ok (.ior, 1) := by decide +kernel
theorem dX9_fitAssumptions_95 : decode cX9_fitAssumptions 95 = .ok (.putfield 185, 3) := by decide +kernel
theorem dX9_fitAssumptions_98 : decode cX9_fitAssumptions 98 = .ok (.aload_n 0, 1) := by decide +kernel
theorem dX9_fitAssumptions_99 : decode cX9_fitAssumptions 99 = .ok (.aload_n 0, 1) := by decide +kernel
theorem dX9_fitAssumptions_100 : decode cX9_fitAssumptions 100 = .ok (.getfield 188, 3) := by decide +kernel
theorem dX9_fitAssumptions_103 : decode cX9_fitAssumptions 103 = .ok (.ifCond .ne 17, 3) := by decide +kernel
theorem dX9_fitAssumptions_106 : decode cX9_fitAssumptions 106 = .ok (.aload_n 0, 1) := by decide +kernel
theorem dX9_fitAssumptions_107 : decode cX9_fitAssumptions 107 = .ok (.getfield 38, 3) := by decide +kernel
theorem dX9_fitAssumptions_110 : decode cX9_fitAssumptions 110 = .ok (.getfield 53, 3) := by decide +kernel
theorem dX9_fitAssumptions_113 : decode cX9_fitAssumptions 113 = .ok (.iload_n 3, 1) := by decide +kernel
theorem dX9_fitAssumptions_114 : decode cX9_fitAssumptions 114 = .ok (.invokevirtual 191, 3) := by decide +kernel
theorem dX9_fitAssumptions_117 : decode cX9_fitAssumptions 117 = .ok (.ifCond .eq 7, 3) := by decide +kernel
theorem dX9_fitAssumptions_120 : decode cX9_fitAssumptions 120 = .ok (.iconst 1, 1) := by decide +kernel
theorem dX9_fitAssumptions_121 : decode cX9_fitAssumptions 121 = .ok (.goto 4, 3) := by decide +kernel
theorem dX9_fitAssumptions_124 : decode cX9_fitAssumptions 124 = .ok (.iconst 0, 1) := by decide +kernel
theorem dX9_fitAssumptions_125 : decode cX9_fitAssumptions 125 = .ok (.putfield 188, 3) := by decide +kernel
theorem dX9_fitAssumptions_128 : decode cX9_fitAssumptions 128 = .ok (.iinc 3 1, 3) := by decide +kernel
theorem dX9_fitAssumptions_131 : decode cX9_fitAssumptions 131 = .ok (.goto (-114), 3) := by decide +kernel
theorem dX9_fitAssumptions_134 : decode cX9_fitAssumptions 134 = .ok (.return_, 1) := by decide +kernel
theorem dX9_fullSet_0 : decode cX9_fullSet 0 = .ok (.iconst 1, 1) := by decide +kernel
theorem dX9_fullSet_1 : decode cX9_fullSet 1 = .ok (.bipush 12, 2) := by decide +kernel
theorem dX9_fullSet_3 : decode cX9_fullSet 3 = .ok (.aload_n 0, 1) := by decide +kernel
theorem dX9_fullSet_4 : decode cX9_fullSet 4 = .ok (.getfield 38, 3) := by decide +kernel
theorem dX9_fullSet_7 : decode cX9_fullSet 7 = .ok (.getfield 65, 3) := by decide +kernel
theorem dX9_fullSet_10 : decode cX9_fullSet 10 = .ok (.invokestatic 209, 3) := by decide +kernel
theorem dX9_fullSet_13 : decode cX9_fullSet 13 = .ok (.ishl, 1) := by decide +kernel
theorem dX9_fullSet_14 : decode cX9_fullSet 14 = .ok (.iconst 1, 1) := by decide +kernel
theorem dX9_fullSet_15 : decode cX9_fullSet 15 = .ok (.isub, 1) := by decide +kernel
theorem dX9_fullSet_16 : decode cX9_fullSet 16 = .ok (.ireturn, 1) := by decide +kernel
theorem dX9_findAnswers_0 : decode cX9_findAnswers 0 = .ok (.aload_n 1, 1) := by decide +kernel
theorem dX9_findAnswers_1 : decode cX9_findAnswers 1 = .ok (.iconst 0, 1) := by decide +kernel
theorem dX9_findAnswers_2 : decode cX9_findAnswers 2 = .ok (.putfield 215, 3) := by decide +kernel
theorem dX9_findAnswers_5 : decode cX9_findAnswers 5 = .ok (.aload_n 0, 1) := by decide +kernel
theorem dX9_findAnswers_6 : decode cX9_findAnswers 6 = .ok (.invokevirtual 218, 3) := by decide +kernel
theorem dX9_findAnswers_9 : decode cX9_findAnswers 9 = .ok (.istore_n 2, 1) := by decide +kernel
theorem dX9_findAnswers_10 : decode cX9_findAnswers 10 = .ok (.iload_n 2, 1) := by decide +kernel
theorem dX9_findAnswers_11 : decode cX9_findAnswers 11 = .ok (.ifCond .lt 61, 3) := by decide +kernel
theorem dX9_findAnswers_14 : decode cX9_findAnswers 14 = .ok (.aload_n 0, 1) := by decide +kernel
theorem dX9_findAnswers_15 : decode cX9_findAnswers 15 = .ok (.iload_n 2, 1) := by decide +kernel
theorem dX9_findAnswers_16 : decode cX9_findAnswers 16 = .ok (.invokevirtual 221, 3) := by decide +kernel
theorem dX9_findAnswers_19 : decode cX9_findAnswers 19 = .ok (.ifCond .eq 47, 3) := by decide +kernel
theorem dX9_findAnswers_22 : decode cX9_findAnswers 22 = .ok (.aload_n 0, 1) := by decide +kernel
theorem dX9_findAnswers_23 : decode cX9_findAnswers 23 = .ok (.iload_n 2, 1) := by decide +kernel
theorem dX9_findAnswers_24 : decode cX9_findAnswers 24 = .ok (.invokevirtual 224, 3) := by decide +kernel
theorem dX9_findAnswers_27 : decode cX9_findAnswers 27 = .ok (.ifCond .eq 39, 3) := by decide +kernel
theorem dX9_findAnswers_30 : decode cX9_findAnswers 30 = .ok (.aload_n 0, 1) := by decide +kernel
theorem dX9_findAnswers_31 : decode cX9_findAnswers 31 = .ok (.iload_n 2, 1) := by decide +kernel
theorem dX9_findAnswers_32 : decode cX9_findAnswers 32 = .ok (.invokevirtual 227, 3) := by decide +kernel
theorem dX9_findAnswers_35 : decode cX9_findAnswers 35 = .ok (.ifCond .ne 31, 3) := by decide +kernel
theorem dX9_findAnswers_38 : decode cX9_findAnswers 38 = .ok (.aload_n 1, 1) := by decide +kernel
theorem dX9_findAnswers_39 : decode cX9_findAnswers 39 = .ok (.iload_n 2, 1) := by decide +kernel
theorem dX9_findAnswers_40 : decode cX9_findAnswers 40 = .ok (.aload_n 0, 1) := by decide +kernel
theorem dX9_findAnswers_41 : decode cX9_findAnswers 41 = .ok (.iload_n 2, 1) := by decide +kernel
theorem dX9_findAnswers_42 : decode cX9_findAnswers 42 = .ok (.iconst 1, 1) := by decide +kernel
theorem dX9_findAnswers_43 : decode cX9_findAnswers 43 = .ok (.invokevirtual 230, 3) := by decide +kernel
theorem dX9_findAnswers_46 : decode cX9_findAnswers 46 = .ok (.aload_n 0, 1) := by decide +kernel
theorem dX9_findAnswers_47 : decode cX9_findAnswers 47 = .ok (.iload_n 2, 1) := by decide +kernel
theorem dX9_findAnswers_48 : decode cX9_findAnswers 48 = .ok (.iconst 2, 1) := by decide +kernel
theorem dX9_findAnswers_49 : decode cX9_findAnswers 49 = .ok (.invokevirtual 230, 3) := by decide +kernel
theorem dX9_findAnswers_52 : decode cX9_findAnswers 52 = .ok (.aload_n 0, 1) := by decide +kernel
theorem dX9_findAnswers_53 : decode cX9_findAnswers 53 = .ok (.iload_n 2, 1) := by decide +kernel
theorem dX9_findAnswers_54 : decode cX9_findAnswers 54 = .ok (.iconst 3, 1) := by decide +kernel
theorem dX9_findAnswers_55 : decode cX9_findAnswers 55 = .ok (.invokevirtual 230, 3) := by decide +kernel
theorem dX9_findAnswers_58 : decode cX9_findAnswers 58 = .ok (.invokevirtual 234, 3) := by decide +kernel
theorem dX9_findAnswers_61 : decode cX9_findAnswers 61 = .ok (.ifCond .ne 5, 3) := by decide +kernel
theorem dX9_findAnswers_64 : decode cX9_findAnswers 64 = .ok (.iconst 0, 1) := by decide +kernel
theorem dX9_findAnswers_65 : decode cX9_findAnswers 65 = .ok (.ireturn, 1) := by decide +kernel
theorem dX9_findAnswers_66 : decode cX9_findAnswers 66 = .ok (.iinc 2 (-1), 3) := by decide +kernel
theorem dX9_findAnswers_69 : decode cX9_findAnswers 69 = .ok (.goto (-59), 3) := by decide +kernel
theorem dX9_findAnswers_72 : decode cX9_findAnswers 72 = .ok (.iconst 1, 1) := by decide +kernel
theorem dX9_findAnswers_73 : decode cX9_findAnswers 73 = .ok (.ireturn, 1) := by decide +kernel
theorem dX9_countByAll_0 : decode cX9_countByAll 0 = .ok (.iconst 0, 1) := by decide +kernel
theorem dX9_countByAll_1 : decode cX9_countByAll 1 = .ok (.istore_n 1, 1) := by decide +kernel
theorem dX9_countByAll_2 : decode cX9_countByAll 2 = .ok (.aload_n 0, 1) := by decide +kernel
theorem dX9_countByAll_3 : decode cX9_countByAll 3 = .ok (.invokevirtual 218, 3) := by decide +kernel
theorem dX9_countByAll_6 : decode cX9_countByAll 6 = .ok (.istore_n 2, 1) := by decide +kernel
theorem dX9_countByAll_7 : decode cX9_countByAll 7 = .ok (.iload_n 2, 1) := by decide +kernel
theorem dX9_countByAll_8 : decode cX9_countByAll 8 = .ok (.ifCond .lt 36, 3) := by decide +kernel
theorem dX9_countByAll_11 : decode cX9_countByAll 11 = .ok (.aload_n 0, 1) := by decide +kernel
theorem dX9_countByAll_12 : decode cX9_countByAll 12 = .ok (.iload_n 2, 1) := by decide +kernel
theorem dX9_countByAll_13 : decode cX9_countByAll 13 = .ok (.invokevirtual 221, 3) := by decide +kernel
theorem dX9_countByAll_16 : decode cX9_countByAll 16 = .ok (.ifCond .eq 22, 3) := by decide +kernel
theorem dX9_countByAll_19 : decode cX9_countByAll 19 = .ok (.aload_n 0, 1) := by decide +kernel
theorem dX9_countByAll_20 : decode cX9_countByAll 20 = .ok (.iload_n 2, 1) := by decide +kernel
theorem dX9_countByAll_21 : decode cX9_countByAll 21 = .ok (.invokevirtual 224, 3) := by decide +kernel
theorem dX9_countByAll_24 : decode cX9_countByAll 24 = .ok (.ifCond .eq 14, 3) := by decide +kernel
theorem dX9_countByAll_27 : decode cX9_countByAll 27 = .ok (.aload_n 0, 1) := by decide +kernel
theorem dX9_countByAll_28 : decode cX9_countByAll 28 = .ok (.iload_n 2, 1) := by decide +kernel
theorem dX9_countByAll_29 : decode cX9_countByAll 29 = .ok (.invokevirtual 238, 3) := by decide +kernel
theorem dX9_countByAll_32 : decode cX9_countByAll 32 = .ok (.ifCond .ne 6, 3) := by decide +kernel
theorem dX9_countByAll_35 : decode cX9_countByAll 35 = .ok (.iinc 1 1, 3) := by decide +kernel
theorem dX9_countByAll_38 : decode cX9_countByAll 38 = .ok (.iinc 2 (-1), 3) := by decide +kernel
theorem dX9_countByAll_41 : decode cX9_countByAll 41 = .ok (.goto (-34), 3) := by decide +kernel
theorem dX9_countByAll_44 : decode cX9_countByAll 44 = .ok (.iload_n 1, 1) := by decide +kernel
theorem dX9_countByAll_45 : decode cX9_countByAll 45 = .ok (.ireturn, 1) := by decide +kernel
theorem dX9_fits_0 : decode cX9_fits 0 = .ok (.aload_n 0, 1) := by decide +kernel
theorem dX9_fits_1 : decode cX9_fits 1 = .ok (.getfield 188, 3) := by decide +kernel
theorem dX9_fits_4 : decode cX9_fits 4 = .ok (.ifCond .ne 29, 3) := by decide +kernel
theorem dX9_fits_7 : decode cX9_fits 7 = .ok (.iload_n 1, 1) := by decide +kernel
theorem dX9_fits_8 : decode cX9_fits 8 = .ok (.aload_n 0, 1) := by decide +kernel
theorem dX9_fits_9 : decode cX9_fits 9 = .ok (.getfield 182, 3) := by decide +kernel
theorem dX9_fits_12 : decode cX9_fits 12 = .ok (.iand, 1) := by decide +kernel
theorem dX9_fits_13 : decode cX9_fits 13 = .ok (.aload_n 0, 1) := by decide +kernel
theorem dX9_fits_14 : decode cX9_fits 14 = .ok (.getfield 182, 3) := by decide +kernel
theorem dX9_fits_17 : decode cX9_fits 17 = .ok (.if_icmp .ne 16, 3) := by decide +kernel
theorem dX9_fits_20 : decode cX9_fits 20 = .ok (.iload_n 1, 1) := by decide +kernel
theorem dX9_fits_21 : decode cX9_fits 21 = .ok (.aload_n 0, 1) := by decide +kernel
theorem dX9_fits_22 : decode cX9_fits 22 = .ok (.getfield 185, 3) := by decide +kernel
theorem dX9_fits_25 : decode cX9_fits 25 = .ok (.iand, 1) := by decide +kernel
theorem dX9_fits_26 : decode cX9_fits 26 = .ok (.ifCond .ne 7, 3) := by decide +kernel
theorem dX9_fits_29 : decode cX9_fits 29 = .ok (.iconst 1, 1) := by decide +kernel
theorem dX9_fits_30 : decode cX9_fits 30 = .ok (.goto 4, 3) := by decide +kernel
theorem dX9_fits_33 : decode cX9_fits 33 = .ok (.iconst 0, 1) := by decide +kernel
theorem dX9_fits_34 : decode cX9_fits 34 = .ok (.ireturn, 1) := by decide +kernel
theorem dX9_isModel_0 : decode cX9_isModel 0 = .ok (.aload_n 0, 1) := by decide +kernel
theorem dX9_isModel_1 : decode cX9_isModel 1 = .ok (.iload_n 1, 1) := by decide +kernel
theorem dX9_isModel_2 : decode cX9_isModel 2 = .ok (.invokevirtual 241, 3) := by decide +kernel
theorem dX9_isModel_5 : decode cX9_isModel 5 = .ok (.istore_n 2, 1) := by decide +kernel
theorem dX9_isModel_6 : decode cX9_isModel 6 = .ok (.aload_n 0, 1) := by decide +kernel
theorem dX9_isModel_7 : decode cX9_isModel 7 = .ok (.getfield 103, 3) := by decide +kernel
theorem dX9_isModel_10 : decode cX9_isModel 10 = .ok (.aload_n 0, 1) := by decide +kernel
theorem dX9_isModel_11 : decode cX9_isModel 11 = .ok (.getfield 12, 3) := by decide +kernel
theorem dX9_isModel_14 : decode cX9_isModel 14 = .ok (.getfield 93, 3) := by decide +kernel
theorem dX9_isModel_17 : decode cX9_isModel 17 = .ok (.if_icmp .ge 21, 3) := by decide +kernel
theorem dX9_isModel_20 : decode cX9_isModel 20 = .ok (.aload_n 0, 1) := by decide +kernel
theorem dX9_isModel_21 : decode cX9_isModel 21 = .ok (.getfield 12, 3) := by decide +kernel
theorem dX9_isModel_24 : decode cX9_isModel 24 = .ok (.aload_n 0, 1) := by decide +kernel
theorem dX9_isModel_25 : decode cX9_isModel 25 = .ok (.getfield 103, 3) := by decide +kernel
theorem dX9_isModel_28 : decode cX9_isModel 28 = .ok (.iload_n 1, 1) := by decide +kernel
theorem dX9_isModel_29 : decode cX9_isModel 29 = .ok (.iload_n 2, 1) := by decide +kernel
theorem dX9_isModel_30 : decode cX9_isModel 30 = .ok (.invokevirtual 244, 3) := by decide +kernel
theorem dX9_isModel_33 : decode cX9_isModel 33 = .ok (.ifCond .eq 5, 3) := by decide +kernel
theorem dX9_isModel_36 : decode cX9_isModel 36 = .ok (.iconst 0, 1) := by decide +kernel
theorem dX9_isModel_37 : decode cX9_isModel 37 = .ok (.ireturn, 1) := by decide +kernel
theorem dX9_isModel_38 : decode cX9_isModel 38 = .ok (.iconst 0, 1) := by decide +kernel
theorem dX9_isModel_39 : decode cX9_isModel 39 = .ok (.istore_n 3, 1) := by decide +kernel
theorem dX9_isModel_40 : decode cX9_isModel 40 = .ok (.iload_n 3, 1) := by decide +kernel
theorem dX9_isModel_41 : decode cX9_isModel 41 = .ok (.aload_n 0, 1) := by decide +kernel
theorem dX9_isModel_42 : decode cX9_isModel 42 = .ok (.getfield 12, 3) := by decide +kernel
theorem dX9_isModel_45 : decode cX9_isModel 45 = .ok (.getfield 93, 3) := by decide +kernel
theorem dX9_isModel_48 : decode cX9_isModel 48 = .ok (.if_icmp .ge 29, 3) := by decide +kernel
theorem dX9_isModel_51 : decode cX9_isModel 51 = .ok (.aload_n 0, 1) := by decide +kernel
theorem dX9_isModel_52 : decode cX9_isModel 52 = .ok (.getfield 12, 3) := by decide +kernel
theorem dX9_isModel_55 : decode cX9_isModel 55 = .ok (.iload_n 3, 1) := by decide +kernel
theorem dX9_isModel_56 : decode cX9_isModel 56 = .ok (.iload_n 1, 1) := by decide +kernel
theorem dX9_isModel_57 : decode cX9_isModel 57 = .ok (.iload_n 2, 1) := by decide +kernel
theorem dX9_isModel_58 : decode cX9_isModel 58 = .ok (.invokevirtual 244, 3) := by decide +kernel
theorem dX9_isModel_61 : decode cX9_isModel 61 = .ok (.ifCond .eq 10, 3) := by decide +kernel
theorem dX9_isModel_64 : decode cX9_isModel 64 = .ok (.aload_n 0, 1) := by decide +kernel
theorem dX9_isModel_65 : decode cX9_isModel 65 = .ok (.iload_n 3, 1) := by decide +kernel
theorem dX9_isModel_66 : decode cX9_isModel 66 = .ok (.putfield 103, 3) := by decide +kernel
theorem dX9_isModel_69 : decode cX9_isModel 69 = .ok (.iconst 0, 1) := by decide +kernel
theorem dX9_isModel_70 : decode cX9_isModel 70 = .ok (.ireturn, 1) := by decide +kernel
theorem dX9_isModel_71 : decode cX9_isModel 71 = .ok (.iinc 3 1, 3) := by decide +kernel
theorem dX9_isModel_74 : decode cX9_isModel 74 = .ok (.goto (-34), 3) := by decide +kernel
theorem dX9_isModel_77 : decode cX9_isModel 77 = .ok (.iconst 1, 1) := by decide +kernel
theorem dX9_isModel_78 : decode cX9_isModel 78 = .ok (.ireturn, 1) := by decide +kernel
theorem dX9_countsHeld_0 : decode cX9_countsHeld 0 = .ok (.ldc 248, 2) := by decide +kernel
theorem dX9_countsHeld_2 : decode cX9_countsHeld 2 = .ok (.istore_n 2, 1) := by decide +kernel
theorem dX9_countsHeld_3 : decode cX9_countsHeld 3 = .ok (.iconst 0, 1) := by decide +kernel
theorem dX9_countsHeld_4 : decode cX9_countsHeld 4 = .ok (.istore_n 3, 1) := by decide +kernel
theorem dX9_countsHeld_5 : decode cX9_countsHeld 5 = .ok (.aload_n 0, 1) := by decide +kernel
theorem dX9_countsHeld_6 : decode cX9_countsHeld 6 = .ok (.getfield 109, 3) := by decide +kernel
theorem dX9_countsHeld_9 : decode cX9_countsHeld 9 = .ok (.iload_n 3, 1) := by decide +kernel
theorem dX9_countsHeld_10 : decode cX9_countsHeld 10 = .ok (.ishr, 1) := by decide +kernel
theorem dX9_countsHeld_11 : decode cX9_countsHeld 11 = .ok (.ifCond .eq 50, 3) := by decide +kernel
theorem dX9_countsHeld_14 : decode cX9_countsHeld 14 = .ok (.iload_n 3, 1) := by decide +kernel
theorem dX9_countsHeld_15 : decode cX9_countsHeld 15 = .ok (.bipush 20, 2) := by decide +kernel
theorem dX9_countsHeld_17 : decode cX9_countsHeld 17 = .ok (.if_icmp .ge 44, 3) := by decide +kernel
theorem dX9_countsHeld_20 : decode cX9_countsHeld 20 = .ok (.aload_n 0, 1) := by decide +kernel
theorem dX9_countsHeld_21 : decode cX9_countsHeld 21 = .ok (.getfield 109, 3) := by decide +kernel
theorem dX9_countsHeld_24 : decode cX9_countsHeld 24 = .ok (.iload_n 3, 1) := by decide +kernel
theorem dX9_countsHeld_25 : decode cX9_countsHeld 25 = .ok (.ishr, 1) := by decide +kernel
theorem dX9_countsHeld_26 : decode cX9_countsHeld 26 = .ok (.iconst 1, 1) := by decide +kernel
theorem dX9_countsHeld_27 : decode cX9_countsHeld 27 = .ok (.iand, 1) := by decide +kernel
theorem dX9_countsHeld_28 : decode cX9_countsHeld 28 = .ok (.ifCond .eq 27, 3) := by decide +kernel
theorem dX9_countsHeld_31 : decode cX9_countsHeld 31 = .ok (.aload_n 0, 1) := by decide +kernel
theorem dX9_countsHeld_32 : decode cX9_countsHeld 32 = .ok (.aload_n 0, 1) := by decide +kernel
theorem dX9_countsHeld_33 : decode cX9_countsHeld 33 = .ok (.getfield 34, 3) := by decide +kernel
theorem dX9_countsHeld_36 : decode cX9_countsHeld 36 = .ok (.iload_n 3, 1) := by decide +kernel
theorem dX9_countsHeld_37 : decode cX9_countsHeld 37 = .ok (.invokevirtual 115, 3) := by decide +kernel
theorem dX9_countsHeld_40 : decode cX9_countsHeld 40 = .ok (.iload_n 1, 1) := by decide +kernel
theorem dX9_countsHeld_41 : decode cX9_countsHeld 41 = .ok (.invokevirtual 249, 3) := by decide +kernel
theorem dX9_countsHeld_44 : decode cX9_countsHeld 44 = .ok (.ifCond .ne 11, 3) := by decide +kernel
theorem dX9_countsHeld_47 : decode cX9_countsHeld 47 = .ok (.iload_n 2, 1) := by decide +kernel
theorem dX9_countsHeld_48 : decode cX9_countsHeld 48 = .ok (.iconst 1, 1) := by decide +kernel
theorem dX9_countsHeld_49 : decode cX9_countsHeld 49 = .ok (.iload_n 3, 1) := by decide +kernel
theorem dX9_countsHeld_50 : decode cX9_countsHeld 50 = .ok (.ishl, 1) := by decide +kernel
theorem dX9_countsHeld_51 : decode cX9_countsHeld 51 = .ok (.iconst (-1), 1) := by decide +kernel
theorem dX9_countsHeld_52 : decode cX9_countsHeld 52 = .ok (.ixor, 1) := by decide +kernel
theorem dX9_countsHeld_53 : decode cX9_countsHeld 53 = .ok (.iand, 1) := by decide +kernel
theorem dX9_countsHeld_54 : decode cX9_countsHeld 54 = .ok (.istore_n 2, 1) := by decide +kernel
theorem dX9_countsHeld_55 : decode cX9_countsHeld 55 = .ok (.iinc 3 1, 3) := by decide +kernel
theorem dX9_countsHeld_58 : decode cX9_countsHeld 58 = .ok (.goto (-53), 3) := by decide +kernel
theorem dX9_countsHeld_61 : decode cX9_countsHeld 61 = .ok (.iload_n 2, 1) := by decide +kernel
theorem dX9_countsHeld_62 : decode cX9_countsHeld 62 = .ok (.ireturn, 1) := by decide +kernel
theorem dX9_hasSmaller_0 : decode cX9_hasSmaller 0 = .ok (.aload_n 0, 1) := by decide +kernel
theorem dX9_hasSmaller_1 : decode cX9_hasSmaller 1 = .ok (.iload_n 1, 1) := by decide +kernel
theorem dX9_hasSmaller_2 : decode cX9_hasSmaller 2 = .ok (.invokevirtual 266, 3) := by decide +kernel
theorem dX9_hasSmaller_5 : decode cX9_hasSmaller 5 = .ok (.aload_n 0, 1) := by decide +kernel
theorem dX9_hasSmaller_6 : decode cX9_hasSmaller 6 = .ok (.getfield 31, 3) := by decide +kernel
theorem dX9_hasSmaller_9 : decode cX9_hasSmaller 9 = .ok (.iconst 0, 1) := by decide +kernel
theorem dX9_hasSmaller_10 : decode cX9_hasSmaller 10 = .ok (.iload_n 1, 1) := by decide +kernel
theorem dX9_hasSmaller_11 : decode cX9_hasSmaller 11 = .ok (.aload_n 0, 1) := by decide +kernel
theorem dX9_hasSmaller_12 : decode cX9_hasSmaller 12 = .ok (.getfield 75, 3) := by decide +kernel
theorem dX9_hasSmaller_15 : decode cX9_hasSmaller 15 = .ok (.iand, 1) := by decide +kernel
theorem dX9_hasSmaller_16 : decode cX9_hasSmaller 16 = .ok (.iastore, 1) := by decide +kernel
theorem dX9_hasSmaller_17 : decode cX9_hasSmaller 17 = .ok (.iconst 1, 1) := by decide +kernel
theorem dX9_hasSmaller_18 : decode cX9_hasSmaller 18 = .ok (.istore_n 2, 1) := by decide +kernel
theorem dX9_hasSmaller_19 : decode cX9_hasSmaller 19 = .ok (.iconst 0, 1) := by decide +kernel
theorem dX9_hasSmaller_20 : decode cX9_hasSmaller 20 = .ok (.istore_n 3, 1) := by decide +kernel
theorem dX9_hasSmaller_21 : decode cX9_hasSmaller 21 = .ok (.iload_n 2, 1) := by decide +kernel
theorem dX9_hasSmaller_22 : decode cX9_hasSmaller 22 = .ok (.ifCond .le 114, 3) := by decide +kernel
theorem dX9_hasSmaller_25 : decode cX9_hasSmaller 25 = .ok (.iload_n 2, 1) := by decide +kernel
theorem dX9_hasSmaller_26 : decode cX9_hasSmaller 26 = .ok (.aload_n 0, 1) := by decide +kernel
theorem dX9_hasSmaller_27 : decode cX9_hasSmaller 27 = .ok (.getfield 31, 3) := by decide +kernel
theorem dX9_hasSmaller_30 : decode cX9_hasSmaller 30 = .ok (.arraylength, 1) := by decide +kernel
theorem dX9_hasSmaller_31 : decode cX9_hasSmaller 31 = .ok (.if_icmp .ge 105, 3) := by decide +kernel
theorem dX9_hasSmaller_34 : decode cX9_hasSmaller 34 = .ok (.iload_n 3, 1) := by decide +kernel
theorem dX9_hasSmaller_35 : decode cX9_hasSmaller 35 = .ok (.ldc_w 269, 3) := by decide +kernel
theorem dX9_hasSmaller_38 : decode cX9_hasSmaller 38 = .ok (.if_icmp .ge 98, 3) := by decide +kernel
theorem dX9_hasSmaller_41 : decode cX9_hasSmaller 41 = .ok (.iinc 2 (-1), 3) := by decide +kernel
theorem dX9_hasSmaller_44 : decode cX9_hasSmaller 44 = .ok (.aload_n 0, 1) := by decide +kernel
theorem dX9_hasSmaller_45 : decode cX9_hasSmaller 45 = .ok (.aload_n 0, 1) := by decide +kernel
theorem dX9_hasSmaller_46 : decode cX9_hasSmaller 46 = .ok (.getfield 31, 3) := by decide +kernel
theorem dX9_hasSmaller_49 : decode cX9_hasSmaller 49 = .ok (.iload_n 2, 1) := by decide +kernel
theorem dX9_hasSmaller_50 : decode cX9_hasSmaller 50 = .ok (.iaload, 1) := by decide +kernel
theorem dX9_hasSmaller_51 : decode cX9_hasSmaller 51 = .ok (.iload_n 1, 1) := by decide +kernel
theorem dX9_hasSmaller_52 : decode cX9_hasSmaller 52 = .ok (.invokevirtual 270, 3) := by decide +kernel
theorem dX9_hasSmaller_55 : decode cX9_hasSmaller 55 = .ok (.istore 4, 2) := by decide +kernel
theorem dX9_hasSmaller_57 : decode cX9_hasSmaller 57 = .ok (.aload_n 0, 1) := by decide +kernel
theorem dX9_hasSmaller_58 : decode cX9_hasSmaller 58 = .ok (.iload 4, 2) := by decide +kernel
theorem dX9_hasSmaller_60 : decode cX9_hasSmaller 60 = .ok (.iload_n 1, 1) := by decide +kernel
theorem dX9_hasSmaller_61 : decode cX9_hasSmaller 61 = .ok (.invokevirtual 273, 3) := by decide +kernel
theorem dX9_hasSmaller_64 : decode cX9_hasSmaller 64 = .ok (.istore 5, 2) := by decide +kernel
theorem dX9_hasSmaller_66 : decode cX9_hasSmaller 66 = .ok (.iload 5, 2) := by decide +kernel
theorem dX9_hasSmaller_68 : decode cX9_hasSmaller 68 = .ok (.ifCond .ne 11, 3) := by decide +kernel
theorem dX9_hasSmaller_71 : decode cX9_hasSmaller 71 = .ok (.iload 4, 2) := by decide +kernel
theorem dX9_hasSmaller_73 : decode cX9_hasSmaller 73 = .ok (.iload_n 1, 1) := by decide +kernel
theorem dX9_hasSmaller_74 : decode cX9_hasSmaller 74 = .ok (.if_icmp .eq 56, 3) := by decide +kernel
theorem dX9_hasSmaller_77 : decode cX9_hasSmaller 77 = .ok (.iconst 1, 1) := by decide +kernel
theorem dX9_hasSmaller_78 : decode cX9_hasSmaller 78 = .ok (.ireturn, 1) := by decide +kernel
theorem dX9_hasSmaller_79 : decode cX9_hasSmaller 79 = .ok (.iload_n 2, 1) := by decide +kernel
theorem dX9_hasSmaller_80 : decode cX9_hasSmaller 80 = .ok (.iconst 1, 1) := by decide +kernel
theorem dX9_hasSmaller_81 : decode cX9_hasSmaller 81 = .ok (.iadd, 1) := by decide +kernel
theorem dX9_hasSmaller_82 : decode cX9_hasSmaller 82 = .ok (.aload_n 0, 1) := by decide +kernel
theorem dX9_hasSmaller_83 : decode cX9_hasSmaller 83 = .ok (.getfield 31, 3) := by decide +kernel
theorem dX9_hasSmaller_86 : decode cX9_hasSmaller 86 = .ok (.arraylength, 1) := by decide +kernel
theorem dX9_hasSmaller_87 : decode cX9_hasSmaller 87 = .ok (.if_icmp .ge 43, 3) := by decide +kernel
theorem dX9_hasSmaller_90 : decode cX9_hasSmaller 90 = .ok (.iload 5, 2) := by decide +kernel
theorem dX9_hasSmaller_92 : decode cX9_hasSmaller 92 = .ok (.iload 5, 2) := by decide +kernel
theorem dX9_hasSmaller_94 : decode cX9_hasSmaller 94 = .ok (.ineg, 1) := by decide +kernel
theorem dX9_hasSmaller_95 : decode cX9_hasSmaller 95 = .ok (.iand, 1) := by decide +kernel
theorem dX9_hasSmaller_96 : decode cX9_hasSmaller 96 = .ok (.istore 6, 2) := by decide +kernel
theorem dX9_hasSmaller_98 : decode cX9_hasSmaller 98 = .ok (.aload_n 0, 1) := by decide +kernel
theorem dX9_hasSmaller_99 : decode cX9_hasSmaller 99 = .ok (.getfield 31, 3) := by decide +kernel
theorem dX9_hasSmaller_102 : decode cX9_hasSmaller 102 = .ok (.iload_n 2, 1) := by decide +kernel
theorem dX9_hasSmaller_103 : decode cX9_hasSmaller 103 = .ok (.iload 4, 2) := by decide +kernel
theorem dX9_hasSmaller_105 : decode cX9_hasSmaller 105 = .ok (.iload 6, 2) := by decide +kernel
theorem dX9_hasSmaller_107 : decode cX9_hasSmaller 107 = .ok (.ior, 1) := by decide +kernel
theorem dX9_hasSmaller_108 : decode cX9_hasSmaller 108 = .ok (.iastore, 1) := by decide +kernel
theorem dX9_hasSmaller_109 : decode cX9_hasSmaller 109 = .ok (.aload_n 0, 1) := by decide +kernel
theorem dX9_hasSmaller_110 : decode cX9_hasSmaller 110 = .ok (.getfield 31, 3) := by decide +kernel
theorem dX9_hasSmaller_113 : decode cX9_hasSmaller 113 = .ok (.iload_n 2, 1) := by decide +kernel
theorem dX9_hasSmaller_114 : decode cX9_hasSmaller 114 = .ok (.iconst 1, 1) := by decide +kernel
theorem dX9_hasSmaller_115 : decode cX9_hasSmaller 115 = .ok (.iadd, 1) := by decide +kernel
theorem dX9_hasSmaller_116 : decode cX9_hasSmaller 116 = .ok (.iload 4, 2) := by decide +kernel
theorem dX9_hasSmaller_118 : decode cX9_hasSmaller 118 = .ok (.iload 5, 2) := by decide +kernel
theorem dX9_hasSmaller_120 : decode cX9_hasSmaller 120 = .ok (.iload 6, 2) := by decide +kernel
theorem dX9_hasSmaller_122 : decode cX9_hasSmaller 122 = .ok (.iconst (-1), 1) := by decide +kernel
theorem dX9_hasSmaller_123 : decode cX9_hasSmaller 123 = .ok (.ixor, 1) := by decide +kernel
theorem dX9_hasSmaller_124 : decode cX9_hasSmaller 124 = .ok (.iand, 1) := by decide +kernel
theorem dX9_hasSmaller_125 : decode cX9_hasSmaller 125 = .ok (.ior, 1) := by decide +kernel
theorem dX9_hasSmaller_126 : decode cX9_hasSmaller 126 = .ok (.iastore, 1) := by decide +kernel
theorem dX9_hasSmaller_127 : decode cX9_hasSmaller 127 = .ok (.iinc 2 2, 3) := by decide +kernel
theorem dX9_hasSmaller_130 : decode cX9_hasSmaller 130 = .ok (.iinc 3 1, 3) := by decide +kernel
theorem dX9_hasSmaller_133 : decode cX9_hasSmaller 133 = .ok (.goto (-112), 3) := by decide +kernel
theorem dX9_hasSmaller_136 : decode cX9_hasSmaller 136 = .ok (.iconst 0, 1) := by decide +kernel
theorem dX9_hasSmaller_137 : decode cX9_hasSmaller 137 = .ok (.ireturn, 1) := by decide +kernel
theorem dX9_listActive_0 : decode cX9_listActive 0 = .ok (.aload_n 0, 1) := by decide +kernel
theorem dX9_listActive_1 : decode cX9_listActive 1 = .ok (.iload_n 1, 1) := by decide +kernel
theorem dX9_listActive_2 : decode cX9_listActive 2 = .ok (.invokevirtual 241, 3) := by decide +kernel
theorem dX9_listActive_5 : decode cX9_listActive 5 = .ok (.istore_n 2, 1) := by decide +kernel
theorem dX9_listActive_6 : decode cX9_listActive 6 = .ok (.aload_n 0, 1) := by decide +kernel
theorem dX9_listActive_7 : decode cX9_listActive 7 = .ok (.iconst 0, 1) := by decide +kernel
theorem dX9_listActive_8 : decode cX9_listActive 8 = .ok (.putfield 276, 3) := by decide +kernel
theorem dX9_listActive_11 : decode cX9_listActive 11 = .ok (.iconst 0, 1) := by decide +kernel
theorem dX9_listActive_12 : decode cX9_listActive 12 = .ok (.istore_n 3, 1) := by decide +kernel
theorem dX9_listActive_13 : decode cX9_listActive 13 = .ok (.iload_n 3, 1) := by decide +kernel
theorem dX9_listActive_14 : decode cX9_listActive 14 = .ok (.aload_n 0, 1) := by decide +kernel
theorem dX9_listActive_15 : decode cX9_listActive 15 = .ok (.getfield 12, 3) := by decide +kernel
theorem dX9_listActive_18 : decode cX9_listActive 18 = .ok (.getfield 93, 3) := by decide +kernel
theorem dX9_listActive_21 : decode cX9_listActive 21 = .ok (.if_icmp .ge 77, 3) := by decide +kernel
theorem dX9_listActive_24 : decode cX9_listActive 24 = .ok (.aload_n 0, 1) := by decide +kernel
theorem dX9_listActive_25 : decode cX9_listActive 25 = .ok (.getfield 12, 3) := by decide +kernel
theorem dX9_listActive_28 : decode cX9_listActive 28 = .ok (.iload_n 3, 1) := by decide +kernel
theorem dX9_listActive_29 : decode cX9_listActive 29 = .ok (.invokevirtual 279, 3) := by decide +kernel
theorem dX9_listActive_32 : decode cX9_listActive 32 = .ok (.iload_n 1, 1) := by decide +kernel
theorem dX9_listActive_33 : decode cX9_listActive 33 = .ok (.iand, 1) := by decide +kernel
theorem dX9_listActive_34 : decode cX9_listActive 34 = .ok (.ifCond .eq 7, 3) := by decide +kernel
theorem dX9_listActive_37 : decode cX9_listActive 37 = .ok (.iconst 1, 1) := by decide +kernel
theorem dX9_listActive_38 : decode cX9_listActive 38 = .ok (.goto 4, 3) := by decide +kernel
theorem dX9_listActive_41 : decode cX9_listActive 41 = .ok (.iconst 0, 1) := by decide +kernel
theorem dX9_listActive_42 : decode cX9_listActive 42 = .ok (.istore 4, 2) := by decide +kernel
theorem dX9_listActive_44 : decode cX9_listActive 44 = .ok (.iload 4, 2) := by decide +kernel
theorem dX9_listActive_46 : decode cX9_listActive 46 = .ok (.ifCond .eq 46, 3) := by decide +kernel
theorem dX9_listActive_49 : decode cX9_listActive 49 = .ok (.aload_n 0, 1) := by decide +kernel
theorem dX9_listActive_50 : decode cX9_listActive 50 = .ok (.getfield 12, 3) := by decide +kernel
theorem dX9_listActive_53 : decode cX9_listActive 53 = .ok (.iload_n 3, 1) := by decide +kernel
theorem dX9_listActive_54 : decode cX9_listActive 54 = .ok (.iload_n 1, 1) := by decide +kernel
theorem dX9_listActive_55 : decode cX9_listActive 55 = .ok (.iload_n 2, 1) := by decide +kernel
theorem dX9_listActive_56 : decode cX9_listActive 56 = .ok (.invokevirtual 282, 3) := by decide +kernel
theorem dX9_listActive_59 : decode cX9_listActive 59 = .ok (.ifCond .eq 33, 3) := by decide +kernel
theorem dX9_listActive_62 : decode cX9_listActive 62 = .ok (.aload_n 0, 1) := by decide +kernel
theorem dX9_listActive_63 : decode cX9_listActive 63 = .ok (.getfield 276, 3) := by decide +kernel
theorem dX9_listActive_66 : decode cX9_listActive 66 = .ok (.sipush 300, 3) := by decide +kernel
theorem dX9_listActive_69 : decode cX9_listActive 69 = .ok (.if_icmp .ge 23, 3) := by decide +kernel
theorem dX9_listActive_72 : decode cX9_listActive 72 = .ok (.aload_n 0, 1) := by decide +kernel
theorem dX9_listActive_73 : decode cX9_listActive 73 = .ok (.getfield 21, 3) := by decide +kernel
theorem dX9_listActive_76 : decode cX9_listActive 76 = .ok (.aload_n 0, 1) := by decide +kernel
theorem dX9_listActive_77 : decode cX9_listActive 77 = .ok (.getfield 276, 3) := by decide +kernel
theorem dX9_listActive_80 : decode cX9_listActive 80 = .ok (.iload_n 3, 1) := by decide +kernel
theorem dX9_listActive_81 : decode cX9_listActive 81 = .ok (.iastore, 1) := by decide +kernel
theorem dX9_listActive_82 : decode cX9_listActive 82 = .ok (.aload_n 0, 1) := by decide +kernel
theorem dX9_listActive_83 : decode cX9_listActive 83 = .ok (.dup, 1) := by decide +kernel
theorem dX9_listActive_84 : decode cX9_listActive 84 = .ok (.getfield 276, 3) := by decide +kernel
theorem dX9_listActive_87 : decode cX9_listActive 87 = .ok (.iconst 1, 1) := by decide +kernel
theorem dX9_listActive_88 : decode cX9_listActive 88 = .ok (.iadd, 1) := by decide +kernel
theorem dX9_listActive_89 : decode cX9_listActive 89 = .ok (.putfield 276, 3) := by decide +kernel
theorem dX9_listActive_92 : decode cX9_listActive 92 = .ok (.iinc 3 1, 3) := by decide +kernel
theorem dX9_listActive_95 : decode cX9_listActive 95 = .ok (.goto (-82), 3) := by decide +kernel
theorem dX9_listActive_98 : decode cX9_listActive 98 = .ok (.return_, 1) := by decide +kernel
theorem dX9_grow_0 : decode cX9_grow 0 = .ok (.iload_n 1, 1) := by decide +kernel
theorem dX9_grow_1 : decode cX9_grow 1 = .ok (.istore_n 3, 1) := by decide +kernel
theorem dX9_grow_2 : decode cX9_grow 2 = .ok (.iconst 1, 1) := by decide +kernel
theorem dX9_grow_3 : decode cX9_grow 3 = .ok (.istore 4, 2) := by decide +kernel
theorem dX9_grow_5 : decode cX9_grow 5 = .ok (.iconst 0, 1) := by decide +kernel
theorem dX9_grow_6 : decode cX9_grow 6 = .ok (.istore 5, 2) := by decide +kernel
theorem dX9_grow_8 : decode cX9_grow 8 = .ok (.iload 4, 2) := by decide +kernel
theorem dX9_grow_10 : decode cX9_grow 10 = .ok (.ifCond .eq 148, 3) := by decide +kernel
theorem dX9_grow_13 : decode cX9_grow 13 = .ok (.iload 5, 2) := by decide +kernel
theorem dX9_grow_15 : decode cX9_grow 15 = .ok (.sipush 1000, 3) := by decide +kernel
theorem dX9_grow_18 : decode cX9_grow 18 = .ok (.if_icmp .ge 140, 3) := by decide +kernel
theorem dX9_grow_21 : decode cX9_grow 21 = .ok (.iload_n 3, 1) := by decide +kernel
theorem dX9_grow_22 : decode cX9_grow 22 = .ok (.istore 6, 2) := by decide +kernel
theorem dX9_grow_24 : decode cX9_grow 24 = .ok (.aload_n 0, 1) := by decide +kernel
theorem dX9_grow_25 : decode cX9_grow 25 = .ok (.iload_n 3, 1) := by decide +kernel
theorem dX9_grow_26 : decode cX9_grow 26 = .ok (.invokevirtual 241, 3) := by decide +kernel
theorem dX9_grow_29 : decode cX9_grow 29 = .ok (.istore 7, 2) := by decide +kernel
theorem dX9_grow_31 : decode cX9_grow 31 = .ok (.iconst 0, 1) := by decide +kernel
theorem dX9_grow_32 : decode cX9_grow 32 = .ok (.istore 8, 2) := by decide +kernel
theorem dX9_grow_34 : decode cX9_grow 34 = .ok (.iload 8, 2) := by decide +kernel
theorem dX9_grow_36 : decode cX9_grow 36 = .ok (.aload_n 0, 1) := by decide +kernel
theorem dX9_grow_37 : decode cX9_grow 37 = .ok (.getfield 276, 3) := by decide +kernel
theorem dX9_grow_40 : decode cX9_grow 40 = .ok (.if_icmp .ge 99, 3) := by decide +kernel
theorem dX9_grow_43 : decode cX9_grow 43 = .ok (.iload 8, 2) := by decide +kernel
theorem dX9_grow_45 : decode cX9_grow 45 = .ok (.sipush 300, 3) := by decide +kernel
theorem dX9_grow_48 : decode cX9_grow 48 = .ok (.if_icmp .ge 91, 3) := by decide +kernel
theorem dX9_grow_51 : decode cX9_grow 51 = .ok (.aload_n 0, 1) := by decide +kernel
theorem dX9_grow_52 : decode cX9_grow 52 = .ok (.getfield 21, 3) := by decide +kernel
theorem dX9_grow_55 : decode cX9_grow 55 = .ok (.iload 8, 2) := by decide +kernel
theorem dX9_grow_57 : decode cX9_grow 57 = .ok (.iaload, 1) := by decide +kernel
theorem dX9_grow_58 : decode cX9_grow 58 = .ok (.istore 9, 2) := by decide +kernel
theorem dX9_grow_60 : decode cX9_grow 60 = .ok (.aload_n 0, 1) := by decide +kernel
theorem dX9_grow_61 : decode cX9_grow 61 = .ok (.getfield 12, 3) := by decide +kernel
theorem dX9_grow_64 : decode cX9_grow 64 = .ok (.iload 9, 2) := by decide +kernel
theorem dX9_grow_66 : decode cX9_grow 66 = .ok (.invokevirtual 279, 3) := by decide +kernel
theorem dX9_grow_69 : decode cX9_grow 69 = .ok (.iload_n 2, 1) := by decide +kernel
theorem dX9_grow_70 : decode cX9_grow 70 = .ok (.iand, 1) := by decide +kernel
theorem dX9_grow_71 : decode cX9_grow 71 = .ok (.istore 10, 2) := by decide +kernel
theorem dX9_grow_73 : decode cX9_grow 73 = .ok (.aload_n 0, 1) := by decide +kernel
theorem dX9_grow_74 : decode cX9_grow 74 = .ok (.iload 9, 2) := by decide +kernel
theorem dX9_grow_76 : decode cX9_grow 76 = .ok (.invokevirtual 287, 3) := by decide +kernel
theorem dX9_grow_79 : decode cX9_grow 79 = .ok (.ifCond .ne 13, 3) := by decide +kernel
theorem dX9_grow_82 : decode cX9_grow 82 = .ok (.iload 10, 2) := by decide +kernel
theorem dX9_grow_84 : decode cX9_grow 84 = .ok (.iload 10, 2) := by decide +kernel
theorem dX9_grow_86 : decode cX9_grow 86 = .ok (.iconst 1, 1) := by decide +kernel
theorem dX9_grow_87 : decode cX9_grow 87 = .ok (.isub, 1) := by decide +kernel
theorem dX9_grow_88 : decode cX9_grow 88 = .ok (.iand, 1) := by decide +kernel
theorem dX9_grow_89 : decode cX9_grow 89 = .ok (.ifCond .ne 7, 3) := by decide +kernel
theorem dX9_grow_92 : decode cX9_grow 92 = .ok (.iconst 1, 1) := by decide +kernel
theorem dX9_grow_93 : decode cX9_grow 93 = .ok (.goto 4, 3) := by decide +kernel
theorem dX9_grow_96 : decode cX9_grow 96 = .ok (.iconst 0, 1) := by decide +kernel
theorem dX9_grow_97 : decode cX9_grow 97 = .ok (.istore 11, 2) := by decide +kernel
theorem dX9_grow_99 : decode cX9_grow 99 = .ok (.iload 11, 2) := by decide +kernel
theorem dX9_grow_101 : decode cX9_grow 101 = .ok (.ifCond .eq 32, 3) := by decide +kernel
theorem dX9_grow_104 : decode cX9_grow 104 = .ok (.iload 10, 2) := by decide +kernel
theorem dX9_grow_106 : decode cX9_grow 106 = .ok (.iload_n 3, 1) := by decide +kernel
theorem dX9_grow_107 : decode cX9_grow 107 = .ok (.iconst (-1), 1) := by decide +kernel
theorem dX9_grow_108 : decode cX9_grow 108 = .ok (.ixor, 1) := by decide +kernel
theorem dX9_grow_109 : decode cX9_grow 109 = .ok (.iand, 1) := by decide +kernel
theorem dX9_grow_110 : decode cX9_grow 110 = .ok (.ifCond .eq 23, 3) := by decide +kernel
theorem dX9_grow_113 : decode cX9_grow 113 = .ok (.aload_n 0, 1) := by decide +kernel
theorem dX9_grow_114 : decode cX9_grow 114 = .ok (.getfield 12, 3) := by decide +kernel
theorem dX9_grow_117 : decode cX9_grow 117 = .ok (.iload 9, 2) := by decide +kernel
theorem dX9_grow_119 : decode cX9_grow 119 = .ok (.iload_n 3, 1) := by decide +kernel
theorem dX9_grow_120 : decode cX9_grow 120 = .ok (.iload 7, 2) := by decide +kernel
theorem dX9_grow_122 : decode cX9_grow 122 = .ok (.invokevirtual 282, 3) := by decide +kernel
theorem dX9_grow_125 : decode cX9_grow 125 = .ok (.ifCond .eq 8, 3) := by decide +kernel
theorem dX9_grow_128 : decode cX9_grow 128 = .ok (.iload_n 3, 1) := by decide +kernel
theorem dX9_grow_129 : decode cX9_grow 129 = .ok (.iload 10, 2) := by decide +kernel
theorem dX9_grow_131 : decode cX9_grow 131 = .ok (.ior, 1) := by decide +kernel
theorem dX9_grow_132 : decode cX9_grow 132 = .ok (.istore_n 3, 1) := by decide +kernel
theorem dX9_grow_133 : decode cX9_grow 133 = .ok (.iinc 8 1, 3) := by decide +kernel
theorem dX9_grow_136 : decode cX9_grow 136 = .ok (.goto (-102), 3) := by decide +kernel
theorem dX9_grow_139 : decode cX9_grow 139 = .ok (.iload_n 3, 1) := by decide +kernel
theorem dX9_grow_140 : decode cX9_grow 140 = .ok (.iload 6, 2) := by decide +kernel
theorem dX9_grow_142 : decode cX9_grow 142 = .ok (.if_icmp .eq 7, 3) := by decide +kernel
theorem dX9_grow_145 : decode cX9_grow 145 = .ok (.iconst 1, 1) := by decide +kernel
theorem dX9_grow_146 : decode cX9_grow 146 = .ok (.goto 4, 3) := by decide +kernel
theorem dX9_grow_149 : decode cX9_grow 149 = .ok (.iconst 0, 1) := by decide +kernel
theorem dX9_grow_150 : decode cX9_grow 150 = .ok (.istore 4, 2) := by decide +kernel
theorem dX9_grow_152 : decode cX9_grow 152 = .ok (.iinc 5 1, 3) := by decide +kernel
theorem dX9_grow_155 : decode cX9_grow 155 = .ok (.goto (-147), 3) := by decide +kernel
theorem dX9_grow_158 : decode cX9_grow 158 = .ok (.iload_n 3, 1) := by decide +kernel
theorem dX9_grow_159 : decode cX9_grow 159 = .ok (.ireturn, 1) := by decide +kernel
theorem dX9_headsToSplit_0 : decode cX9_headsToSplit 0 = .ok (.aload_n 0, 1) := by decide +kernel
theorem dX9_headsToSplit_1 : decode cX9_headsToSplit 1 = .ok (.iload_n 1, 1) := by decide +kernel
theorem dX9_headsToSplit_2 : decode cX9_headsToSplit 2 = .ok (.invokevirtual 241, 3) := by decide +kernel
theorem dX9_headsToSplit_5 : decode cX9_headsToSplit 5 = .ok (.istore_n 3, 1) := by decide +kernel
theorem dX9_headsToSplit_6 : decode cX9_headsToSplit 6 = .ok (.iconst 0, 1) := by decide +kernel
theorem dX9_headsToSplit_7 : decode cX9_headsToSplit 7 = .ok (.istore 4, 2) := by decide +kernel
theorem dX9_headsToSplit_9 : decode cX9_headsToSplit 9 = .ok (.iload 4, 2) := by decide +kernel
theorem dX9_headsToSplit_11 : decode cX9_headsToSplit 11 = .ok (.aload_n 0, 1) := by decide +kernel
theorem dX9_headsToSplit_12 : decode cX9_headsToSplit 12 = .ok (.getfield 276, 3) := by decide +kernel
theorem dX9_headsToSplit_15 : decode cX9_headsToSplit 15 = .ok (.if_icmp .ge 72, 3) := by decide +kernel
theorem dX9_headsToSplit_18 : decode cX9_headsToSplit 18 = .ok (.iload 4, 2) := by decide +kernel
theorem dX9_headsToSplit_20 : decode cX9_headsToSplit 20 = .ok (.sipush 300, 3) := by decide +kernel
theorem dX9_headsToSplit_23 : decode cX9_headsToSplit 23 = .ok (.if_icmp .ge 64, 3) := by decide +kernel
theorem dX9_headsToSplit_26 : decode cX9_headsToSplit 26 = .ok (.aload_n 0, 1) := by decide +kernel
theorem dX9_headsToSplit_27 : decode cX9_headsToSplit 27 = .ok (.getfield 21, 3) := by decide +kernel
theorem dX9_headsToSplit_30 : decode cX9_headsToSplit 30 = .ok (.iload 4, 2) := by decide +kernel
theorem dX9_headsToSplit_32 : decode cX9_headsToSplit 32 = .ok (.iaload, 1) := by decide +kernel
theorem dX9_headsToSplit_33 : decode cX9_headsToSplit 33 = .ok (.istore 5, 2) := by decide +kernel
theorem dX9_headsToSplit_35 : decode cX9_headsToSplit 35 = .ok (.aload_n 0, 1) := by decide +kernel
theorem dX9_headsToSplit_36 : decode cX9_headsToSplit 36 = .ok (.getfield 12, 3) := by decide +kernel
theorem dX9_headsToSplit_39 : decode cX9_headsToSplit 39 = .ok (.iload 5, 2) := by decide +kernel
theorem dX9_headsToSplit_41 : decode cX9_headsToSplit 41 = .ok (.invokevirtual 279, 3) := by decide +kernel
theorem dX9_headsToSplit_44 : decode cX9_headsToSplit 44 = .ok (.iload_n 2, 1) := by decide +kernel
theorem dX9_headsToSplit_45 : decode cX9_headsToSplit 45 = .ok (.iand, 1) := by decide +kernel
theorem dX9_headsToSplit_46 : decode cX9_headsToSplit 46 = .ok (.istore 6, 2) := by decide +kernel
theorem dX9_headsToSplit_48 : decode cX9_headsToSplit 48 = .ok (.aload_n 0, 1) := by decide +kernel
theorem dX9_headsToSplit_49 : decode cX9_headsToSplit 49 = .ok (.iload 5, 2) := by decide +kernel
theorem dX9_headsToSplit_51 : decode cX9_headsToSplit 51 = .ok (.invokevirtual 287, 3) := by decide +kernel
theorem dX9_headsToSplit_54 : decode cX9_headsToSplit 54 = .ok (.ifCond .ne 27, 3) := by decide +kernel
theorem dX9_headsToSplit_57 : decode cX9_headsToSplit 57 = .ok (.iload 6, 2) := by decide +kernel
theorem dX9_headsToSplit_59 : decode cX9_headsToSplit 59 = .ok (.iload_n 1, 1) := by decide +kernel
theorem dX9_headsToSplit_60 : decode cX9_headsToSplit 60 = .ok (.iand, 1) := by decide +kernel
theorem dX9_headsToSplit_61 : decode cX9_headsToSplit 61 = .ok (.ifCond .ne 20, 3) := by decide +kernel
theorem dX9_headsToSplit_64 : decode cX9_headsToSplit 64 = .ok (.aload_n 0, 1) := by decide +kernel
theorem dX9_headsToSplit_65 : decode cX9_headsToSplit 65 = .ok (.getfield 12, 3) := by decide +kernel
theorem dX9_headsToSplit_68 : decode cX9_headsToSplit 68 = .ok (.iload 5, 2) := by decide +kernel
theorem dX9_headsToSplit_70 : decode cX9_headsToSplit 70 = .ok (.iload_n 1, 1) := by decide +kernel
theorem dX9_headsToSplit_71 : decode cX9_headsToSplit 71 = .ok (.iload_n 3, 1) := by decide +kernel
theorem dX9_headsToSplit_72 : decode cX9_headsToSplit 72 = .ok (.invokevirtual 282, 3) := by decide +kernel
theorem dX9_headsToSplit_75 : decode cX9_headsToSplit 75 = .ok (.ifCond .eq 6, 3) := by decide +kernel
theorem dX9_headsToSplit_78 : decode cX9_headsToSplit 78 = .ok (.iload 6, 2) := by decide +kernel
theorem dX9_headsToSplit_80 : decode cX9_headsToSplit 80 = .ok (.ireturn, 1) := by decide +kernel
theorem dX9_headsToSplit_81 : decode cX9_headsToSplit 81 = .ok (.iinc 4 1, 3) := by decide +kernel
theorem dX9_headsToSplit_84 : decode cX9_headsToSplit 84 = .ok (.goto (-75), 3) := by decide +kernel
theorem dX9_headsToSplit_87 : decode cX9_headsToSplit 87 = .ok (.iconst 0, 1) := by decide +kernel
theorem dX9_headsToSplit_88 : decode cX9_headsToSplit 88 = .ok (.ireturn, 1) := by decide +kernel
theorem dX9_hasSmallerByAll_0 : decode cX9_hasSmallerByAll 0 = .ok (.aload_n 0, 1) := by decide +kernel
theorem dX9_hasSmallerByAll_1 : decode cX9_hasSmallerByAll 1 = .ok (.iload_n 1, 1) := by decide +kernel
theorem dX9_hasSmallerByAll_2 : decode cX9_hasSmallerByAll 2 = .ok (.invokevirtual 266, 3) := by decide +kernel
theorem dX9_hasSmallerByAll_5 : decode cX9_hasSmallerByAll 5 = .ok (.iconst 0, 1) := by decide +kernel
theorem dX9_hasSmallerByAll_6 : decode cX9_hasSmallerByAll 6 = .ok (.istore_n 2, 1) := by decide +kernel
theorem dX9_hasSmallerByAll_7 : decode cX9_hasSmallerByAll 7 = .ok (.iload_n 2, 1) := by decide +kernel
theorem dX9_hasSmallerByAll_8 : decode cX9_hasSmallerByAll 8 = .ok (.iload_n 1, 1) := by decide +kernel
theorem dX9_hasSmallerByAll_9 : decode cX9_hasSmallerByAll 9 = .ok (.if_icmp .ge 28, 3) := by decide +kernel
theorem dX9_hasSmallerByAll_12 : decode cX9_hasSmallerByAll 12 = .ok (.iload_n 2, 1) := by decide +kernel
theorem dX9_hasSmallerByAll_13 : decode cX9_hasSmallerByAll 13 = .ok (.iload_n 1, 1) := by decide +kernel
theorem dX9_hasSmallerByAll_14 : decode cX9_hasSmallerByAll 14 = .ok (.iconst (-1), 1) := by decide +kernel
theorem dX9_hasSmallerByAll_15 : decode cX9_hasSmallerByAll 15 = .ok (.ixor, 1) := by decide +kernel
theorem dX9_hasSmallerByAll_16 : decode cX9_hasSmallerByAll 16 = .ok (.iand, 1) := by decide +kernel
theorem dX9_hasSmallerByAll_17 : decode cX9_hasSmallerByAll 17 = .ok (.ifCond .ne 14, 3) := by decide +kernel
theorem dX9_hasSmallerByAll_20 : decode cX9_hasSmallerByAll 20 = .ok (.aload_n 0, 1) := by decide +kernel
theorem dX9_hasSmallerByAll_21 : decode cX9_hasSmallerByAll 21 = .ok (.iload_n 2, 1) := by decide +kernel
theorem dX9_hasSmallerByAll_22 : decode cX9_hasSmallerByAll 22 = .ok (.iload_n 1, 1) := by decide +kernel
theorem dX9_hasSmallerByAll_23 : decode cX9_hasSmallerByAll 23 = .ok (.invokevirtual 290, 3) := by decide +kernel
theorem dX9_hasSmallerByAll_26 : decode cX9_hasSmallerByAll 26 = .ok (.ifCond .eq 5, 3) := by decide +kernel
theorem dX9_hasSmallerByAll_29 : decode cX9_hasSmallerByAll 29 = .ok (.iconst 1, 1) := by decide +kernel
theorem dX9_hasSmallerByAll_30 : decode cX9_hasSmallerByAll 30 = .ok (.ireturn, 1) := by decide +kernel
theorem dX9_hasSmallerByAll_31 : decode cX9_hasSmallerByAll 31 = .ok (.iinc 2 1, 3) := by decide +kernel
theorem dX9_hasSmallerByAll_34 : decode cX9_hasSmallerByAll 34 = .ok (.goto (-27), 3) := by decide +kernel
theorem dX9_hasSmallerByAll_37 : decode cX9_hasSmallerByAll 37 = .ok (.iconst 0, 1) := by decide +kernel
theorem dX9_hasSmallerByAll_38 : decode cX9_hasSmallerByAll 38 = .ok (.ireturn, 1) := by decide +kernel
theorem dX9_costOf_0 : decode cX9_costOf 0 = .ok (.lconst 0, 1) := by decide +kernel
theorem dX9_costOf_1 : decode cX9_costOf 1 = .ok (.lstore_n 3, 1) := by decide +kernel
theorem dX9_costOf_2 : decode cX9_costOf 2 = .ok (.aload_n 0, 1) := by decide +kernel
theorem dX9_costOf_3 : decode cX9_costOf 3 = .ok (.iload_n 1, 1) := by decide +kernel
theorem dX9_costOf_4 : decode cX9_costOf 4 = .ok (.invokevirtual 241, 3) := by decide +kernel
theorem dX9_costOf_7 : decode cX9_costOf 7 = .ok (.istore 5, 2) := by decide +kernel
theorem dX9_costOf_9 : decode cX9_costOf 9 = .ok (.iconst 0, 1) := by decide +kernel
theorem dX9_costOf_10 : decode cX9_costOf 10 = .ok (.istore 6, 2) := by decide +kernel
theorem dX9_costOf_12 : decode cX9_costOf 12 = .ok (.iload 6, 2) := by decide +kernel
theorem dX9_costOf_14 : decode cX9_costOf 14 = .ok (.aload_n 0, 1) := by decide +kernel
theorem dX9_costOf_15 : decode cX9_costOf 15 = .ok (.getfield 18, 3) := by decide +kernel
theorem dX9_costOf_18 : decode cX9_costOf 18 = .ok (.getfield 93, 3) := by decide +kernel
theorem dX9_costOf_21 : decode cX9_costOf 21 = .ok (.if_icmp .ge 65, 3) := by decide +kernel
theorem dX9_costOf_24 : decode cX9_costOf 24 = .ok (.aload_n 0, 1) := by decide +kernel
theorem dX9_costOf_25 : decode cX9_costOf 25 = .ok (.getfield 34, 3) := by decide +kernel
theorem dX9_costOf_28 : decode cX9_costOf 28 = .ok (.aload_n 0, 1) := by decide +kernel
theorem dX9_costOf_29 : decode cX9_costOf 29 = .ok (.getfield 18, 3) := by decide +kernel
theorem dX9_costOf_32 : decode cX9_costOf 32 = .ok (.iload 6, 2) := by decide +kernel
theorem dX9_costOf_34 : decode cX9_costOf 34 = .ok (.invokevirtual 285, 3) := by decide +kernel
theorem dX9_costOf_37 : decode cX9_costOf 37 = .ok (.invokevirtual 115, 3) := by decide +kernel
theorem dX9_costOf_40 : decode cX9_costOf 40 = .ok (.astore 7, 2) := by decide +kernel
theorem dX9_costOf_42 : decode cX9_costOf 42 = .ok (.aload 7, 2) := by decide +kernel
theorem dX9_costOf_44 : decode cX9_costOf 44 = .ok (.ifnull 36, 3) := by decide +kernel
theorem dX9_costOf_47 : decode cX9_costOf 47 = .ok (.aload 7, 2) := by decide +kernel
theorem dX9_costOf_49 : decode cX9_costOf 49 = .ok (.getfield 294, 3) := by decide +kernel
theorem dX9_costOf_52 : decode cX9_costOf 52 = .ok (.iload_n 2, 1) := by decide +kernel
theorem dX9_costOf_53 : decode cX9_costOf 53 = .ok (.if_icmp .ne 27, 3) := by decide +kernel
theorem dX9_costOf_56 : decode cX9_costOf 56 = .ok (.aload_n 0, 1) := by decide +kernel
theorem dX9_costOf_57 : decode cX9_costOf 57 = .ok (.getfield 18, 3) := by decide +kernel
theorem dX9_costOf_60 : decode cX9_costOf 60 = .ok (.iload 6, 2) := by decide +kernel
theorem dX9_costOf_62 : decode cX9_costOf 62 = .ok (.iload_n 1, 1) := by decide +kernel
theorem dX9_costOf_63 : decode cX9_costOf 63 = .ok (.iload 5, 2) := by decide +kernel
theorem dX9_costOf_65 : decode cX9_costOf 65 = .ok (.invokevirtual 282, 3) := by decide +kernel
theorem dX9_costOf_68 : decode cX9_costOf 68 = .ok (.ifCond .eq 12, 3) := by decide +kernel
theorem dX9_costOf_71 : decode cX9_costOf 71 = .ok (.lload_n 3, 1) := by decide +kernel
theorem dX9_costOf_72 : decode cX9_costOf 72 = .ok (.aload 7, 2) := by decide +kernel
theorem dX9_costOf_74 : decode cX9_costOf 74 = .ok (.getfield 297, 3) := by decide +kernel
theorem dX9_costOf_77 : decode cX9_costOf 77 = .ok (.i2l, 1) := by decide +kernel
theorem dX9_costOf_78 : decode cX9_costOf 78 = .ok (.ladd, 1) := by decide +kernel
theorem dX9_costOf_79 : decode cX9_costOf 79 = .ok (.lstore_n 3, 1) := by decide +kernel
theorem dX9_costOf_80 : decode cX9_costOf 80 = .ok (.iinc 6 1, 3) := by decide +kernel
theorem dX9_costOf_83 : decode cX9_costOf 83 = .ok (.goto (-71), 3) := by decide +kernel
theorem dX9_costOf_86 : decode cX9_costOf 86 = .ok (.lload_n 3, 1) := by decide +kernel
theorem dX9_costOf_87 : decode cX9_costOf 87 = .ok (.lreturn, 1) := by decide +kernel
theorem dX10_loops_0 : decode cX10_loops 0 = .ok (.aload_n 0, 1) := by decide +kernel
theorem dX10_loops_1 : decode cX10_loops 1 = .ok (.getfield 21, 3) := by decide +kernel
theorem dX10_loops_4 : decode cX10_loops 4 = .ok (.invokevirtual 251, 3) := by decide +kernel
theorem dX10_loops_7 : decode cX10_loops 7 = .ok (.aload_n 0, 1) := by decide +kernel
theorem dX10_loops_8 : decode cX10_loops 8 = .ok (.getfield 21, 3) := by decide +kernel
theorem dX10_loops_11 : decode cX10_loops 11 = .ok (.getfield 269, 3) := by decide +kernel
theorem dX10_loops_14 : decode cX10_loops 14 = .ok (.sipush 300, 3) := by decide +kernel
theorem dX10_loops_17 : decode cX10_loops 17 = .ok (.if_icmp .le 14, 3) := by decide +kernel
theorem dX10_loops_20 : decode cX10_loops 20 = .ok (.new 272, 3) := by decide +kernel
theorem dX10_loops_23 : decode cX10_loops 23 = .ok (.dup, 1) := by decide +kernel
theorem dX10_loops_24 : decode cX10_loops 24 = .ok (.ldc_w 274, 3) := by decide +kernel
theorem dX10_loops_27 : decode cX10_loops 27 = .ok (.invokespecial 276, 3) := by decide +kernel
theorem dX10_loops_30 : decode cX10_loops 30 = .ok (.athrow, 1) := by decide +kernel
theorem dX10_loops_31 : decode cX10_loops 31 = .ok (.aload_n 0, 1) := by decide +kernel
theorem dX10_loops_32 : decode cX10_loops 32 = .ok (.getfield 39, 3) := by decide +kernel
theorem dX10_loops_35 : decode cX10_loops 35 = .ok (.invokevirtual 277, 3) := by decide +kernel
theorem dX10_loops_38 : decode cX10_loops 38 = .ok (.ireturn, 1) := by decide +kernel
theorem dX10_walk_0 : decode cX10_walk 0 = .ok (.aload_n 0, 1) := by decide +kernel
theorem dX10_walk_1 : decode cX10_walk 1 = .ok (.getfield 56, 3) := by decide +kernel
theorem dX10_walk_4 : decode cX10_walk 4 = .ok (.getfield 235, 3) := by decide +kernel
theorem dX10_walk_7 : decode cX10_walk 7 = .ok (.ifCond .eq 11, 3) := by decide +kernel
theorem dX10_walk_10 : decode cX10_walk 10 = .ok (.aload_n 0, 1) := by decide +kernel
theorem dX10_walk_11 : decode cX10_walk 11 = .ok (.getfield 56, 3) := by decide +kernel
theorem dX10_walk_14 : decode cX10_walk 14 = .ok (.getfield 280, 3) := by decide +kernel
theorem dX10_walk_17 : decode cX10_walk 17 = .ok (.ireturn, 1) := by decide +kernel
theorem dX10_walk_18 : decode cX10_walk 18 = .ok (.aload_n 0, 1) := by decide +kernel
theorem dX10_walk_19 : decode cX10_walk 19 = .ok (.getfield 21, 3) := by decide +kernel
theorem dX10_walk_22 : decode cX10_walk 22 = .ok (.invokevirtual 251, 3) := by decide +kernel
theorem dX10_walk_25 : decode cX10_walk 25 = .ok (.aload_n 0, 1) := by decide +kernel
theorem dX10_walk_26 : decode cX10_walk 26 = .ok (.getfield 21, 3) := by decide +kernel
theorem dX10_walk_29 : decode cX10_walk 29 = .ok (.getfield 263, 3) := by decide +kernel
theorem dX10_walk_32 : decode cX10_walk 32 = .ok (.bipush 12, 2) := by decide +kernel
theorem dX10_walk_34 : decode cX10_walk 34 = .ok (.if_icmp .gt 16, 3) := by decide +kernel
theorem dX10_walk_37 : decode cX10_walk 37 = .ok (.aload_n 0, 1) := by decide +kernel
theorem dX10_walk_38 : decode cX10_walk 38 = .ok (.getfield 21, 3) := by decide +kernel
theorem dX10_walk_41 : decode cX10_walk 41 = .ok (.getfield 269, 3) := by decide +kernel
theorem dX10_walk_44 : decode cX10_walk 44 = .ok (.sipush 300, 3) := by decide +kernel
theorem dX10_walk_47 : decode cX10_walk 47 = .ok (.if_icmp .le 14, 3) := by decide +kernel
theorem dX10_walk_50 : decode cX10_walk 50 = .ok (.new 272, 3) := by decide +kernel
theorem dX10_walk_53 : decode cX10_walk 53 = .ok (.dup, 1) := by decide +kernel
theorem dX10_walk_54 : decode cX10_walk 54 = .ok (.ldc_w 282, 3) := by decide +kernel
theorem dX10_walk_57 : decode cX10_walk 57 = .ok (.invokespecial 276, 3) := by decide +kernel
theorem dX10_walk_60 : decode cX10_walk 60 = .ok (.athrow, 1) := by decide +kernel
theorem dX10_walk_61 : decode cX10_walk 61 = .ok (.aload_n 0, 1) := by decide +kernel
theorem dX10_walk_62 : decode cX10_walk 62 = .ok (.getfield 30, 3) := by decide +kernel
theorem dX10_walk_65 : decode cX10_walk 65 = .ok (.aload_n 0, 1) := by decide +kernel
theorem dX10_walk_66 : decode cX10_walk 66 = .ok (.getfield 46, 3) := by decide +kernel
theorem dX10_walk_69 : decode cX10_walk 69 = .ok (.aload_n 0, 1) := by decide +kernel
theorem dX10_walk_70 : decode cX10_walk 70 = .ok (.getfield 50, 3) := by decide +kernel
theorem dX10_walk_73 : decode cX10_walk 73 = .ok (.invokevirtual 284, 3) := by decide +kernel
theorem dX10_walk_76 : decode cX10_walk 76 = .ok (.aload_n 0, 1) := by decide +kernel
theorem dX10_walk_77 : decode cX10_walk 77 = .ok (.getfield 30, 3) := by decide +kernel
theorem dX10_walk_80 : decode cX10_walk 80 = .ok (.aload_n 0, 1) := by decide +kernel
theorem dX10_walk_81 : decode cX10_walk 81 = .ok (.getfield 56, 3) := by decide +kernel
theorem dX10_walk_84 : decode cX10_walk 84 = .ok (.invokevirtual 288, 3) := by decide +kernel
theorem dX10_walk_87 : decode cX10_walk 87 = .ok (.ifCond .ne 14, 3) := by decide +kernel
theorem dX10_walk_90 : decode cX10_walk 90 = .ok (.new 272, 3) := by decide +kernel
theorem dX10_walk_93 : decode cX10_walk 93 = .ok (.dup, 1) := by decide +kernel
theorem dX10_walk_94 : decode cX10_walk 94 = .ok (.ldc_w 292, 3) := by decide +kernel
theorem dX10_walk_97 : decode cX10_walk 97 = .ok (.invokespecial 276, 3) := by decide +kernel
theorem dX10_walk_100 : decode cX10_walk 100 = .ok (.athrow, 1) := by decide +kernel
theorem dX10_walk_101 : decode cX10_walk 101 = .ok (.aload_n 0, 1) := by decide +kernel
theorem dX10_walk_102 : decode cX10_walk 102 = .ok (.getfield 56, 3) := by decide +kernel
theorem dX10_walk_105 : decode cX10_walk 105 = .ok (.iconst 1, 1) := by decide +kernel
theorem dX10_walk_106 : decode cX10_walk 106 = .ok (.putfield 235, 3) := by decide +kernel
theorem dX10_walk_109 : decode cX10_walk 109 = .ok (.aload_n 0, 1) := by decide +kernel
theorem dX10_walk_110 : decode cX10_walk 110 = .ok (.getfield 56, 3) := by decide +kernel
theorem dX10_walk_113 : decode cX10_walk 113 = .ok (.getfield 280, 3) := by decide +kernel
theorem dX10_walk_116 : decode cX10_walk 116 = .ok (.ireturn, 1) := by decide +kernel
theorem dX10_walkByAll_0 : decode cX10_walkByAll 0 = .ok (.aload_n 0, 1) := by decide +kernel
theorem dX10_walkByAll_1 : decode cX10_walkByAll 1 = .ok (.getfield 21, 3) := by decide +kernel
theorem dX10_walkByAll_4 : decode cX10_walkByAll 4 = .ok (.invokevirtual 251, 3) := by decide +kernel
theorem dX10_walkByAll_7 : decode cX10_walkByAll 7 = .ok (.aload_n 0, 1) := by decide +kernel
theorem dX10_walkByAll_8 : decode cX10_walkByAll 8 = .ok (.getfield 21, 3) := by decide +kernel
theorem dX10_walkByAll_11 : decode cX10_walkByAll 11 = .ok (.getfield 263, 3) := by decide +kernel
theorem dX10_walkByAll_14 : decode cX10_walkByAll 14 = .ok (.bipush 7, 2) := by decide +kernel
theorem dX10_walkByAll_16 : decode cX10_walkByAll 16 = .ok (.if_icmp .gt 16, 3) := by decide +kernel
theorem dX10_walkByAll_19 : decode cX10_walkByAll 19 = .ok (.aload_n 0, 1) := by decide +kernel
theorem dX10_walkByAll_20 : decode cX10_walkByAll 20 = .ok (.getfield 21, 3) := by decide +kernel
theorem dX10_walkByAll_23 : decode cX10_walkByAll 23 = .ok (.getfield 269, 3) := by decide +kernel
theorem dX10_walkByAll_26 : decode cX10_walkByAll 26 = .ok (.sipush 300, 3) := by decide +kernel
theorem dX10_walkByAll_29 : decode cX10_walkByAll 29 = .ok (.if_icmp .le 14, 3) := by decide +kernel
theorem dX10_walkByAll_32 : decode cX10_walkByAll 32 = .ok (.new 272, 3) := by decide +kernel
theorem dX10_walkByAll_35 : decode cX10_walkByAll 35 = .ok (.dup, 1) := by decide +kernel
theorem dX10_walkByAll_36 : decode cX10_walkByAll 36 = .ok (.ldc_w 294, 3) := by decide +kernel
theorem dX10_walkByAll_39 : decode cX10_walkByAll 39 = .ok (.invokespecial 276, 3) := by decide +kernel
theorem dX10_walkByAll_42 : decode cX10_walkByAll 42 = .ok (.athrow, 1) := by decide +kernel
theorem dX10_walkByAll_43 : decode cX10_walkByAll 43 = .ok (.aload_n 0, 1) := by decide +kernel
theorem dX10_walkByAll_44 : decode cX10_walkByAll 44 = .ok (.getfield 30, 3) := by decide +kernel
theorem dX10_walkByAll_47 : decode cX10_walkByAll 47 = .ok (.aload_n 0, 1) := by decide +kernel
theorem dX10_walkByAll_48 : decode cX10_walkByAll 48 = .ok (.getfield 46, 3) := by decide +kernel
theorem dX10_walkByAll_51 : decode cX10_walkByAll 51 = .ok (.aload_n 0, 1) := by decide +kernel
theorem dX10_walkByAll_52 : decode cX10_walkByAll 52 = .ok (.getfield 50, 3) := by decide +kernel
theorem dX10_walkByAll_55 : decode cX10_walkByAll 55 = .ok (.invokevirtual 284, 3) := by decide +kernel
theorem dX10_walkByAll_58 : decode cX10_walkByAll 58 = .ok (.aload_n 0, 1) := by decide +kernel
theorem dX10_walkByAll_59 : decode cX10_walkByAll 59 = .ok (.getfield 30, 3) := by decide +kernel
theorem dX10_walkByAll_62 : decode cX10_walkByAll 62 = .ok (.invokevirtual 296, 3) := by decide +kernel
theorem dX10_walkByAll_65 : decode cX10_walkByAll 65 = .ok (.ireturn, 1) := by decide +kernel
def vs_a_X5_clearRows_0 : List Cond := .code yX5_clearRows cX5_clearRows 3 none :: ([])
set_option maxHeartbeats 4000000 in
set_option maxRecDepth 100000 in
theorem a_X5_clearRows_0 (l : Launch) (D : va_G) (ty : Nat → ClassId) (td mi sz : Nat) (x39 : Nat) : Met l yX5_clearRows vs_a_X5_clearRows_0 { frames := 0, cells := 0, slots := 0, locals := 0 } (va_Pc [.ref x39, .int 0] (wq_P D ty td mi [] sz)) (va_Qv (fun u : va_W => ((u = []))) (wq_B D (va_A [] sz)) (va_A [] sz)) 0 0 (va_A [] sz) := by
  refine Met.ofW (cc := cX5_clearRows) (maxL := 3) (ret := none) (by decide) rfl ?_
  intro p e s m args below meth c s₁ B hml hv
  obtain ⟨rfl, hsz, hP, hK, hD0, hE⟩ := hv
  have hx := B.exec
  have hb := B.bytes
  have hr := B.returns
  have hts := atoms_spec (ws := vs_a_X5_clearRows_0) B.pre
  have hown : s.vm.findClass RX5 = some m.cls := findClass_of_methodNamed B.named
  have hlocks := B.notSynchronized
  subst hsz
  have hD := hD0.self (sz := s.heap.size)
  generalize hAe : va_A [] s.heap.size = A at hD hE ⊢
  have hA : ∀ q : Nat, s.heap.size ≤ q → A q := fun q h => by rw [← hAe]; exact Or.inr h
  have hS : va_S A s.heap s.heap [] := va_S.rf
  have hP : va_P D vwCl [] s.heap := hP
  have hl := lv_entry ([.ref x39, .int 0]) (n := 3) (Nat.le_of_ble_eq_true rfl)
  rw [lg_entry_eq]
  generalize (lg_sl ([.ref x39, .int 0]) ++ List.replicate (3 - (lg_sl ([.ref x39, .int 0])).length) Slot.unset).toArray = ls at hl ⊢
  have hl : lv_has ls 3 [(0, .ref x39), (1, .int 0)] := hl
  refine lv_iconst (v := 0) hx hb dX5_clearRows_0 (by decide) ?_
  refine lv_istore_n (lv' := [(2, .int 0), (0, .ref x39), (1, .int 0)]) hx hb dX5_clearRows_1 rfl hl (by decide) rfl (fun ls hl => ?_)
  refine lv_iload_n hx hb dX5_clearRows_2 rfl (lv_at hl 0 rfl) ?_
  refine lv_iload_n hx hb dX5_clearRows_3 rfl (lv_at hl 2 rfl) ?_
  refine lv_bipush (v := 6) hx hb dX5_clearRows_4 (by decide) ?_
  refine lv_imul hx hb dX5_clearRows_6 ?_
  refine lv_topi (nm_r (e' := 0) (by decide) ?_)
  refine lv_icmp_ge (tgt := 32) hx hb dX5_clearRows_7 (by decide) (fun _ => ?_) (fun c0 => absurd (by decide) c0)
  have hP9 := hP.sub (ws' := []) [] rfl
  have hD9 := hD.sub (ws' := []) [] (by decide) rfl
  refine W.widen (k := 0) (n := 0) (Nat.le_of_ble_eq_true rfl) (Nat.le_of_ble_eq_true rfl) ?_
  exact W.vret hx hb hr (fun t ht hW => ⟨⟨[], rfl, rfl, wq_B.of ht hP9 hD9⟩, hS.F ht⟩) hS.2.2 dX5_clearRows_32
def vs_a_X5_countLoops_0 : List Cond := .code yX5_countLoops cX5_countLoops 4 (some .int) :: ([.fieldLink RX5 15 "AnswerFold$LoopFinder" "grounding" "LAnswerFold$Grounding;", .methodLink RX5 25 yX5_clearRows, .instanceMethod yX5_clearRows, .selects RX5 yX5_clearRows yX5_clearRows, .initialized RX5] ++ (u_ws RX5 TX5 2 ++ (u_ws RX3 TX3 16 ++ (vs_a_X5_clearRows_0))))
theorem iv_a_X5_countLoops_0_X3 : ∀ w ∈ u_ws RX3 TX3 16, w ∈ vs_a_X5_countLoops_0 := (fun _ h => List.mem_cons_of_mem _ (List.mem_append_right _ (List.mem_append_right _ (List.mem_append_left _ h))))
theorem iv_a_X5_countLoops_0_X5 : ∀ w ∈ u_ws RX5 TX5 2, w ∈ vs_a_X5_countLoops_0 := (fun _ h => List.mem_cons_of_mem _ (List.mem_append_right _ (List.mem_append_left _ h)))
set_option maxRecDepth 20000 in
theorem gv_a_X5_countLoops_0_0 : GoodIn vs_a_X5_countLoops_0 (wsV RX5 25 RX5 yX5_clearRows vs_a_X5_clearRows_0) := goodIn_app (goodIn_sub (by decide +kernel) (by decide +kernel)) (goodIn_sub (fun _ h => List.mem_cons_of_mem _ (List.mem_append_right _ (List.mem_append_right _ (List.mem_append_right _ (h))))) (by decide +kernel))
set_option maxHeartbeats 4000000 in
set_option maxRecDepth 100000 in
theorem a_X5_countLoops_0 (l : Launch) (D : va_G) (ty : Nat → ClassId) (td mi sz : Nat) (x39 : Nat) (x8 : Nat) (x40 : Nat) (x1 : Nat) (x9 : Nat) (x10 : Nat) (x12 : Nat) (x14 : Nat) (x15 : Nat) (x16 : Nat) (x17 : Nat) (x18 : Nat) (x19 : Nat) : Met l yX5_countLoops vs_a_X5_countLoops_0 { frames := 1, cells := 0, slots := 0, locals := 22 } (va_Pc [.ref x39] (wq_P D ty td mi [(x39, .inr (10, [.ref x8, .ref x40])), (x8, .inr (8, [.ref x1, .ref x9, .ref x10, .ref x12, .ref x14, .int 0, .ref x15, .ref x16, .ref x17, .int 0, .ref x18, .ref x19, .int 0, .int 1, .int 2, .int 0]))] sz)) (va_Qi (fun (r : Int32) (u : va_W) => (r = 0 ∧ (u = [(x39, .inr (10, [.ref x8, .ref x40])), (x8, .inr (8, [.ref x1, .ref x9, .ref x10, .ref x12, .ref x14, .int 0, .ref x15, .ref x16, .ref x17, .int 0, .ref x18, .ref x19, .int 0, .int 1, .int 2, .int 0]))]))) (wq_B D (va_A [(x39, .inr (10, [.ref x8, .ref x40])), (x8, .inr (8, [.ref x1, .ref x9, .ref x10, .ref x12, .ref x14, .int 0, .ref x15, .ref x16, .ref x17, .int 0, .ref x18, .ref x19, .int 0, .int 1, .int 2, .int 0]))] sz)) (va_A [(x39, .inr (10, [.ref x8, .ref x40])), (x8, .inr (8, [.ref x1, .ref x9, .ref x10, .ref x12, .ref x14, .int 0, .ref x15, .ref x16, .ref x17, .int 0, .ref x18, .ref x19, .int 0, .int 1, .int 2, .int 0]))] sz)) 0 0 (va_A [(x39, .inr (10, [.ref x8, .ref x40])), (x8, .inr (8, [.ref x1, .ref x9, .ref x10, .ref x12, .ref x14, .int 0, .ref x15, .ref x16, .ref x17, .int 0, .ref x18, .ref x19, .int 0, .int 1, .int 2, .int 0]))] sz) := by
  refine Met.ofW (cc := cX5_countLoops) (maxL := 4) (ret := (some .int)) (by decide) rfl ?_
  intro p e s m args below meth c s₁ B hml hv
  obtain ⟨rfl, hsz, hP, hK, hD0, hE⟩ := hv
  have hx := B.exec
  have hb := B.bytes
  have hr := B.returns
  have hts := atoms_spec (ws := vs_a_X5_countLoops_0) B.pre
  have hown : s.vm.findClass RX5 = some m.cls := findClass_of_methodNamed B.named
  have hlocks := B.notSynchronized
  subst hsz
  have hD := hD0.self (sz := s.heap.size)
  generalize hAe : va_A [(x39, .inr (10, [.ref x8, .ref x40])), (x8, .inr (8, [.ref x1, .ref x9, .ref x10, .ref x12, .ref x14, .int 0, .ref x15, .ref x16, .ref x17, .int 0, .ref x18, .ref x19, .int 0, .int 1, .int 2, .int 0]))] s.heap.size = A at hD hE ⊢
  have hA : ∀ q : Nat, s.heap.size ≤ q → A q := fun q h => by rw [← hAe]; exact Or.inr h
  have hS : va_S A s.heap s.heap [] := va_S.rf
  have hP : va_P D vwCl [(x39, .inr (10, [.ref x8, .ref x40])), (x8, .inr (8, [.ref x1, .ref x9, .ref x10, .ref x12, .ref x14, .int 0, .ref x15, .ref x16, .ref x17, .int 0, .ref x18, .ref x19, .int 0, .int 1, .int 2, .int 0]))] s.heap := hP
  have hl := lv_entry ([.ref x39]) (n := 4) (Nat.le_of_ble_eq_true rfl)
  rw [lg_entry_eq]
  generalize (lg_sl ([.ref x39]) ++ List.replicate (4 - (lg_sl ([.ref x39])).length) Slot.unset).toArray = ls at hl ⊢
  have hl : lv_has ls 4 [(0, .ref x39)] := hl
  refine lv_aload_n hx hb dX5_countLoops_0 rfl (lv_at hl 0 rfl) ?_
  refine va_get (D := D) (ci := 10) (v := .ref x8) (C := RX5) (T := TX5) (N := 2) hx hb hts iv_a_X5_countLoops_0_X5 hown hK hP 0 rfl rfl 0 (by decide) (hts (.fieldLink RX5 15 "AnswerFold$LoopFinder" "grounding" "LAnswerFold$Grounding;") (by decide +kernel)) (fun _ h9 => h9) rfl dX5_countLoops_1 ?_
  refine va_getN (D := D) (ci := 8) (v := .int 0) (C := RX3) (T := TX3) (N := 16) hx hb hts iv_a_X5_countLoops_0_X3 hown hK hP 1 rfl rfl 12 (by decide) (hE.at (.fieldLinkNest "AnswerFold$LoopFinder" 19 "AnswerFold$Grounding" "openCount" "I" "AnswerFold") (by decide +kernel)) (fun _ h9 => h9) rfl dX5_countLoops_4 ?_
  refine lv_istore_n (lv' := [(1, .int 0), (0, .ref x39)]) hx hb dX5_countLoops_7 rfl hl (by decide) rfl (fun ls hl => ?_)
  refine lv_aload_n hx hb dX5_countLoops_8 rfl (lv_at hl 1 rfl) ?_
  refine lv_iload_n hx hb dX5_countLoops_9 rfl (lv_at hl 0 rfl) ?_
  refine wq_v (wc := []) (wr := [(x39, .inr (10, [.ref x8, .ref x40])), (x8, .inr (8, [.ref x1, .ref x9, .ref x10, .ref x12, .ref x14, .int 0, .ref x15, .ref x16, .ref x17, .int 0, .ref x18, .ref x19, .int 0, .int 1, .int 2, .int 0]))]) (va_runV (As := [.int 0]) (rest := []) ⟨hx, hb, hml, hown, hts⟩ (a_X5_clearRows_0 l D ty td mi s.heap.size x39) (cwV 1 hts gv_a_X5_countLoops_0_0 rfl rfl rfl (by decide +kernel) ⟨(Nat.le_of_ble_eq_true rfl), (Nat.le_of_ble_eq_true rfl)⟩) (wq_preV hP hD hK hE hS hA [] rfl (by decide) 0 10 rfl rfl) rfl rfl hl.1 rfl (lv_room (Nat.le_of_ble_eq_true rfl)) dX5_countLoops_10 ⟨(Nat.le_of_ble_eq_true rfl), (Nat.le_of_ble_eq_true rfl)⟩) hS hA hP hD [] [0, 1] rfl rfl (by decide) (by decide) (fun u H locs hw hP hD hS => ?_)
  obtain rfl := hw
  have hP : va_P D vwCl [(x39, .inr (10, [.ref x8, .ref x40])), (x8, .inr (8, [.ref x1, .ref x9, .ref x10, .ref x12, .ref x14, .int 0, .ref x15, .ref x16, .ref x17, .int 0, .ref x18, .ref x19, .int 0, .int 1, .int 2, .int 0]))] H := hP
  have hD : va_D A [(x39, .inr (10, [.ref x8, .ref x40])), (x8, .inr (8, [.ref x1, .ref x9, .ref x10, .ref x12, .ref x14, .int 0, .ref x15, .ref x16, .ref x17, .int 0, .ref x18, .ref x19, .int 0, .int 1, .int 2, .int 0]))] := hD
  refine W.widen (k := 0) (n := 0) (Nat.le_of_ble_eq_true rfl) (Nat.le_of_ble_eq_true rfl) ?_
  refine lv_iconst (v := 0) hx hb dX5_countLoops_13 (by decide) ?_
  refine lv_istore_n (lv' := [(2, .int 0), (1, .int 0), (0, .ref x39)]) hx hb dX5_countLoops_14 rfl hl (by decide) rfl (fun ls hl => ?_)
  refine lv_iload_n hx hb dX5_countLoops_15 rfl (lv_at hl 0 rfl) ?_
  refine lv_aload_n hx hb dX5_countLoops_16 rfl (lv_at hl 2 rfl) ?_
  refine va_get (D := D) (ci := 10) (v := .ref x8) (C := RX5) (T := TX5) (N := 2) hx hb hts iv_a_X5_countLoops_0_X5 hown hK hP 0 rfl rfl 0 (by decide) (hts (.fieldLink RX5 15 "AnswerFold$LoopFinder" "grounding" "LAnswerFold$Grounding;") (by decide +kernel)) (fun _ h9 => h9) rfl dX5_countLoops_17 ?_
  refine va_getN (D := D) (ci := 8) (v := .int 0) (C := RX3) (T := TX3) (N := 16) hx hb hts iv_a_X5_countLoops_0_X3 hown hK hP 1 rfl rfl 9 (by decide) (hE.at (.fieldLinkNest "AnswerFold$LoopFinder" 29 "AnswerFold$Grounding" "keptCount" "I" "AnswerFold") (by decide +kernel)) (fun _ h9 => h9) rfl dX5_countLoops_20 ?_
  refine lv_icmp_ge (tgt := 37) hx hb dX5_countLoops_23 (by decide) (fun _ => ?_) (fun c0 => absurd (by decide) c0)
  refine lv_iconst (v := 0) hx hb dX5_countLoops_37 (by decide) ?_
  refine lv_istore_n (lv' := [(2, .int 0), (1, .int 0), (0, .ref x39)]) hx hb dX5_countLoops_38 rfl hl (by decide) rfl (fun ls hl => ?_)
  refine lv_iload_n hx hb dX5_countLoops_39 rfl (lv_at hl 0 rfl) ?_
  refine lv_iload_n hx hb dX5_countLoops_40 rfl (lv_at hl 1 rfl) ?_
  refine lv_icmp_ge (tgt := 78) hx hb dX5_countLoops_41 (by decide) (fun _ => ?_) (fun c0 => absurd (by decide) c0)
  refine lv_iconst (v := 0) hx hb dX5_countLoops_78 (by decide) ?_
  refine lv_istore_n (lv' := [(2, .int 0), (1, .int 0), (0, .ref x39)]) hx hb dX5_countLoops_79 rfl hl (by decide) rfl (fun ls hl => ?_)
  refine lv_iconst (v := 0) hx hb dX5_countLoops_80 (by decide) ?_
  refine lv_istore_n (lv' := [(3, .int 0), (2, .int 0), (1, .int 0), (0, .ref x39)]) hx hb dX5_countLoops_81 rfl hl (by decide) rfl (fun ls hl => ?_)
  refine lv_iload_n hx hb dX5_countLoops_82 rfl (lv_at hl 0 rfl) ?_
  refine lv_iload_n hx hb dX5_countLoops_83 rfl (lv_at hl 2 rfl) ?_
  refine lv_icmp_ge (tgt := 113) hx hb dX5_countLoops_84 (by decide) (fun _ => ?_) (fun c0 => absurd (by decide) c0)
  refine lv_iload_n hx hb dX5_countLoops_113 rfl (lv_at hl 1 rfl) ?_
  have hP9 := hP.sub (ws' := [(x39, .inr (10, [.ref x8, .ref x40])), (x8, .inr (8, [.ref x1, .ref x9, .ref x10, .ref x12, .ref x14, .int 0, .ref x15, .ref x16, .ref x17, .int 0, .ref x18, .ref x19, .int 0, .int 1, .int 2, .int 0]))]) [0, 1] rfl
  have hD9 := hD.sub (ws' := [(x39, .inr (10, [.ref x8, .ref x40])), (x8, .inr (8, [.ref x1, .ref x9, .ref x10, .ref x12, .ref x14, .int 0, .ref x15, .ref x16, .ref x17, .int 0, .ref x18, .ref x19, .int 0, .int 1, .int 2, .int 0]))]) [0, 1] (by decide) rfl
  refine W.widen (k := 0) (n := 0) (Nat.le_of_ble_eq_true rfl) (Nat.le_of_ble_eq_true rfl) ?_
  exact W.iret (v := 0) hx hb hr (fun t ht hW => ⟨⟨0, [(x39, .inr (10, [.ref x8, .ref x40])), (x8, .inr (8, [.ref x1, .ref x9, .ref x10, .ref x12, .ref x14, .int 0, .ref x15, .ref x16, .ref x17, .int 0, .ref x18, .ref x19, .int 0, .int 1, .int 2, .int 0]))], rfl, ⟨rfl, rfl⟩, wq_B.of ht hP9 hD9⟩, hS.F ht⟩) hS.2.2 dX5_countLoops_114
def vs_k_X10_loops : List Cond := .code yX10_loops cX10_loops 1 (some .int) :: ([.fieldLink RX10 21 "AnswerFold" "grounding" "LAnswerFold$Grounding;", .methodLink RX10 251 yX3_refresh, .instanceMethod yX3_refresh, .selects RX3 yX3_refresh yX3_refresh, .initialized RX3, .fieldLink RX10 39 "AnswerFold" "loopFinder" "LAnswerFold$LoopFinder;", .methodLink RX10 277 yX5_countLoops, .instanceMethod yX5_countLoops, .selects RX5 yX5_countLoops yX5_countLoops, .initialized RX5] ++ (u_ws RX10 TX10 7 ++ (vs_k_X3_refresh ++ (u_ws RX3 TX3 16 ++ (vs_a_X5_countLoops_0)))))
theorem iv_k_X10_loops_X10 : ∀ w ∈ u_ws RX10 TX10 7, w ∈ vs_k_X10_loops := (fun _ h => List.mem_cons_of_mem _ (List.mem_append_right _ (List.mem_append_left _ h)))
theorem iv_k_X10_loops_X3 : ∀ w ∈ u_ws RX3 TX3 16, w ∈ vs_k_X10_loops := (fun _ h => List.mem_cons_of_mem _ (List.mem_append_right _ (List.mem_append_right _ (List.mem_append_right _ (List.mem_append_left _ h)))))
set_option maxRecDepth 20000 in
theorem gv_k_X10_loops_0 : GoodIn vs_k_X10_loops (wsV RX10 251 RX3 yX3_refresh vs_k_X3_refresh) := goodIn_app (goodIn_sub (by decide +kernel) (by decide +kernel)) (goodIn_sub (fun _ h => List.mem_cons_of_mem _ (List.mem_append_right _ (List.mem_append_right _ (List.mem_append_left _ h)))) (by decide +kernel))
set_option maxRecDepth 20000 in
theorem gv_k_X10_loops_1 : GoodIn vs_k_X10_loops (wsV RX10 277 RX5 yX5_countLoops vs_a_X5_countLoops_0) := goodIn_app (goodIn_sub (by decide +kernel) (by decide +kernel)) (goodIn_sub (fun _ h => List.mem_cons_of_mem _ (List.mem_append_right _ (List.mem_append_right _ (List.mem_append_right _ (List.mem_append_right _ (h)))))) (by decide +kernel))
set_option maxHeartbeats 4000000 in
set_option maxRecDepth 100000 in
theorem k_X10_loops (l : Launch) (D : va_G) (ty : Nat → ClassId) (td mi sz : Nat) (x0 : Nat) (x1 : Nat) (x8 : Nat) (x20 : Nat) (x39 : Nat) (x41 : Nat) (x43 : Nat) (x45 : Nat) (x2 : Nat) (x3 : Nat) (x4 : Nat) (x5 : Nat) (x6 : Nat) (x7 : Nat) (x9 : Nat) (x10 : Nat) (x12 : Nat) (x14 : Nat) (x15 : Nat) (x16 : Nat) (x17 : Nat) (x18 : Nat) (x19 : Nat) (x11 : Nat) (x13 : Nat) (x40 : Nat) : Met l yX10_loops vs_k_X10_loops { frames := 3, cells := 0, slots := 0, locals := 69 } (va_Pc [.ref x0] (wq_P D ty td mi [(x0, .inr (15, [.ref x1, .ref x8, .ref x20, .ref x39, .ref x41, .ref x43, .ref x45])), (x1, .inr (11, [.ref x2, .int 0, .ref x3, .int 0, .ref x4, .ref x5, .int 1, .ref x6, .ref x7, .int 0])), (x8, .inr (8, [.ref x1, .ref x9, .ref x10, .ref x12, .ref x14, .int 0, .ref x15, .ref x16, .ref x17, .int 0, .ref x18, .ref x19, .int 0, .int 0, .int 0, .int 0])), (x10, .inr (6, [.ref x11])), (x11, .inl (ty 1, 6, .inr (.inl (fun _ => 0)))), (x12, .inr (6, [.ref x13])), (x13, .inl (ty 1, 6, .inr (.inl (fun _ => 0)))), (x17, .inl (ty 0, 20, .inl (fun _ => 0))), (x19, .inl (ty 0, 384, .inl (fun _ => 0))), (x39, .inr (10, [.ref x8, .ref x40]))] sz)) (va_Qi (fun (r : Int32) (u : va_W) => (r = 0 ∧ (u = []))) (wq_B D (va_A [(x0, .inr (15, [.ref x1, .ref x8, .ref x20, .ref x39, .ref x41, .ref x43, .ref x45])), (x1, .inr (11, [.ref x2, .int 0, .ref x3, .int 0, .ref x4, .ref x5, .int 1, .ref x6, .ref x7, .int 0])), (x8, .inr (8, [.ref x1, .ref x9, .ref x10, .ref x12, .ref x14, .int 0, .ref x15, .ref x16, .ref x17, .int 0, .ref x18, .ref x19, .int 0, .int 0, .int 0, .int 0])), (x10, .inr (6, [.ref x11])), (x11, .inl (ty 1, 6, .inr (.inl (fun _ => 0)))), (x12, .inr (6, [.ref x13])), (x13, .inl (ty 1, 6, .inr (.inl (fun _ => 0)))), (x17, .inl (ty 0, 20, .inl (fun _ => 0))), (x19, .inl (ty 0, 384, .inl (fun _ => 0))), (x39, .inr (10, [.ref x8, .ref x40]))] sz)) (va_A [(x0, .inr (15, [.ref x1, .ref x8, .ref x20, .ref x39, .ref x41, .ref x43, .ref x45])), (x1, .inr (11, [.ref x2, .int 0, .ref x3, .int 0, .ref x4, .ref x5, .int 1, .ref x6, .ref x7, .int 0])), (x8, .inr (8, [.ref x1, .ref x9, .ref x10, .ref x12, .ref x14, .int 0, .ref x15, .ref x16, .ref x17, .int 0, .ref x18, .ref x19, .int 0, .int 0, .int 0, .int 0])), (x10, .inr (6, [.ref x11])), (x11, .inl (ty 1, 6, .inr (.inl (fun _ => 0)))), (x12, .inr (6, [.ref x13])), (x13, .inl (ty 1, 6, .inr (.inl (fun _ => 0)))), (x17, .inl (ty 0, 20, .inl (fun _ => 0))), (x19, .inl (ty 0, 384, .inl (fun _ => 0))), (x39, .inr (10, [.ref x8, .ref x40]))] sz)) 0 0 (va_A [(x0, .inr (15, [.ref x1, .ref x8, .ref x20, .ref x39, .ref x41, .ref x43, .ref x45])), (x1, .inr (11, [.ref x2, .int 0, .ref x3, .int 0, .ref x4, .ref x5, .int 1, .ref x6, .ref x7, .int 0])), (x8, .inr (8, [.ref x1, .ref x9, .ref x10, .ref x12, .ref x14, .int 0, .ref x15, .ref x16, .ref x17, .int 0, .ref x18, .ref x19, .int 0, .int 0, .int 0, .int 0])), (x10, .inr (6, [.ref x11])), (x11, .inl (ty 1, 6, .inr (.inl (fun _ => 0)))), (x12, .inr (6, [.ref x13])), (x13, .inl (ty 1, 6, .inr (.inl (fun _ => 0)))), (x17, .inl (ty 0, 20, .inl (fun _ => 0))), (x19, .inl (ty 0, 384, .inl (fun _ => 0))), (x39, .inr (10, [.ref x8, .ref x40]))] sz) := by
  refine Met.ofW (cc := cX10_loops) (maxL := 1) (ret := (some .int)) (by decide) rfl ?_
  intro p e s m args below meth c s₁ B hml hv
  obtain ⟨rfl, hsz, hP, hK, hD0, hE⟩ := hv
  have hx := B.exec
  have hb := B.bytes
  have hr := B.returns
  have hts := atoms_spec (ws := vs_k_X10_loops) B.pre
  have hown : s.vm.findClass RX10 = some m.cls := findClass_of_methodNamed B.named
  have hlocks := B.notSynchronized
  subst hsz
  have hD := hD0.self (sz := s.heap.size)
  generalize hAe : va_A [(x0, .inr (15, [.ref x1, .ref x8, .ref x20, .ref x39, .ref x41, .ref x43, .ref x45])), (x1, .inr (11, [.ref x2, .int 0, .ref x3, .int 0, .ref x4, .ref x5, .int 1, .ref x6, .ref x7, .int 0])), (x8, .inr (8, [.ref x1, .ref x9, .ref x10, .ref x12, .ref x14, .int 0, .ref x15, .ref x16, .ref x17, .int 0, .ref x18, .ref x19, .int 0, .int 0, .int 0, .int 0])), (x10, .inr (6, [.ref x11])), (x11, .inl (ty 1, 6, .inr (.inl (fun _ => 0)))), (x12, .inr (6, [.ref x13])), (x13, .inl (ty 1, 6, .inr (.inl (fun _ => 0)))), (x17, .inl (ty 0, 20, .inl (fun _ => 0))), (x19, .inl (ty 0, 384, .inl (fun _ => 0))), (x39, .inr (10, [.ref x8, .ref x40]))] s.heap.size = A at hD hE ⊢
  have hA : ∀ q : Nat, s.heap.size ≤ q → A q := fun q h => by rw [← hAe]; exact Or.inr h
  have hS : va_S A s.heap s.heap [] := va_S.rf
  have hP : va_P D vwCl [(x0, .inr (15, [.ref x1, .ref x8, .ref x20, .ref x39, .ref x41, .ref x43, .ref x45])), (x1, .inr (11, [.ref x2, .int 0, .ref x3, .int 0, .ref x4, .ref x5, .int 1, .ref x6, .ref x7, .int 0])), (x8, .inr (8, [.ref x1, .ref x9, .ref x10, .ref x12, .ref x14, .int 0, .ref x15, .ref x16, .ref x17, .int 0, .ref x18, .ref x19, .int 0, .int 0, .int 0, .int 0])), (x10, .inr (6, [.ref x11])), (x11, .inl (ty 1, 6, .inr (.inl (fun _ => 0)))), (x12, .inr (6, [.ref x13])), (x13, .inl (ty 1, 6, .inr (.inl (fun _ => 0)))), (x17, .inl (ty 0, 20, .inl (fun _ => 0))), (x19, .inl (ty 0, 384, .inl (fun _ => 0))), (x39, .inr (10, [.ref x8, .ref x40]))] s.heap := hP
  have hl := lv_entry ([.ref x0]) (n := 1) (Nat.le_of_ble_eq_true rfl)
  rw [lg_entry_eq]
  generalize (lg_sl ([.ref x0]) ++ List.replicate (1 - (lg_sl ([.ref x0])).length) Slot.unset).toArray = ls at hl ⊢
  have hl : lv_has ls 1 [(0, .ref x0)] := hl
  refine lv_aload_n hx hb dX10_loops_0 rfl (lv_at hl 0 rfl) ?_
  refine va_get (D := D) (ci := 15) (v := .ref x8) (C := RX10) (T := TX10) (N := 7) hx hb hts iv_k_X10_loops_X10 hown hK hP 0 rfl rfl 1 (by decide) (hts (.fieldLink RX10 21 "AnswerFold" "grounding" "LAnswerFold$Grounding;") (by decide +kernel)) (fun _ h9 => h9) rfl dX10_loops_1 ?_
  refine wq_v (wc := [(x8, .inr (8, [.ref x1, .ref x9, .ref x10, .ref x12, .ref x14, .int 0, .ref x15, .ref x16, .ref x17, .int 0, .ref x18, .ref x19, .int 0, .int 0, .int 0, .int 0])), (x1, .inr (11, [.ref x2, .int 0, .ref x3, .int 0, .ref x4, .ref x5, .int 1, .ref x6, .ref x7, .int 0])), (x10, .inr (6, [.ref x11])), (x11, .inl (ty 1, 6, .inr (.inl (fun _ => 0)))), (x12, .inr (6, [.ref x13])), (x13, .inl (ty 1, 6, .inr (.inl (fun _ => 0)))), (x17, .inl (ty 0, 20, .inl (fun _ => 0))), (x19, .inl (ty 0, 384, .inl (fun _ => 0)))]) (wr := [(x0, .inr (15, [.ref x1, .ref x8, .ref x20, .ref x39, .ref x41, .ref x43, .ref x45])), (x39, .inr (10, [.ref x8, .ref x40]))]) (va_runV (As := []) (rest := []) ⟨hx, hb, hml, hown, hts⟩ (k_X3_refresh l D ty td mi s.heap.size x8 x1 x9 x10 x12 x14 x15 x16 x17 x18 x19 x2 x3 x4 x5 x6 x7 x11 x13) (cwV 0 hts gv_k_X10_loops_0 rfl rfl rfl (by decide +kernel) ⟨(Nat.le_of_ble_eq_true rfl), (Nat.le_of_ble_eq_true rfl)⟩) (wq_preV hP hD hK hE hS hA [2, 1, 3, 4, 5, 6, 7, 8] rfl (by decide) 2 8 rfl rfl) rfl rfl hl.1 rfl (lv_room (Nat.le_of_ble_eq_true rfl)) dX10_loops_4 ⟨(Nat.le_of_ble_eq_true rfl), (Nat.le_of_ble_eq_true rfl)⟩) hS hA hP hD [2, 1, 3, 4, 5, 6, 7, 8] [0, 9] rfl rfl (by decide) (by decide) (fun u H locs hw hP hD hS => ?_)
  obtain rfl := hw
  have hP : va_P D vwCl [(x0, .inr (15, [.ref x1, .ref x8, .ref x20, .ref x39, .ref x41, .ref x43, .ref x45])), (x39, .inr (10, [.ref x8, .ref x40])), (x17, .inl (ty 0, 20, .inl (fun _ => 0))), (x1, .inr (11, [.ref x2, .int 0, .ref x3, .int 0, .ref x4, .ref x5, .int 1, .ref x6, .ref x7, .int 0])), (x8, .inr (8, [.ref x1, .ref x9, .ref x10, .ref x12, .ref x14, .int 0, .ref x15, .ref x16, .ref x17, .int 0, .ref x18, .ref x19, .int 0, .int 1, .int 2, .int 0])), (x10, .inr (6, [.ref x11])), (x11, .inl (ty 1, 6, .inr (.inl (fun _ => 0)))), (x12, .inr (6, [.ref x13])), (x13, .inl (ty 1, 6, .inr (.inl (fun _ => 0)))), (x19, .inl (ty 0, 384, .inl (fun j => if j < 384 then (-1) else 0)))] H := hP
  have hD : va_D A [(x0, .inr (15, [.ref x1, .ref x8, .ref x20, .ref x39, .ref x41, .ref x43, .ref x45])), (x39, .inr (10, [.ref x8, .ref x40])), (x17, .inl (ty 0, 20, .inl (fun _ => 0))), (x1, .inr (11, [.ref x2, .int 0, .ref x3, .int 0, .ref x4, .ref x5, .int 1, .ref x6, .ref x7, .int 0])), (x8, .inr (8, [.ref x1, .ref x9, .ref x10, .ref x12, .ref x14, .int 0, .ref x15, .ref x16, .ref x17, .int 0, .ref x18, .ref x19, .int 0, .int 1, .int 2, .int 0])), (x10, .inr (6, [.ref x11])), (x11, .inl (ty 1, 6, .inr (.inl (fun _ => 0)))), (x12, .inr (6, [.ref x13])), (x13, .inl (ty 1, 6, .inr (.inl (fun _ => 0)))), (x19, .inl (ty 0, 384, .inl (fun j => if j < 384 then (-1) else 0)))] := hD
  refine W.widen (k := 0) (n := 0) (Nat.le_of_ble_eq_true rfl) (Nat.le_of_ble_eq_true rfl) ?_
  refine lv_aload_n hx hb dX10_loops_7 rfl (lv_at hl 0 rfl) ?_
  refine va_get (D := D) (ci := 15) (v := .ref x8) (C := RX10) (T := TX10) (N := 7) hx hb hts iv_k_X10_loops_X10 hown hK hP 0 rfl rfl 1 (by decide) (hts (.fieldLink RX10 21 "AnswerFold" "grounding" "LAnswerFold$Grounding;") (by decide +kernel)) (fun _ h9 => h9) rfl dX10_loops_8 ?_
  refine va_getN (D := D) (ci := 8) (v := .int 0) (C := RX3) (T := TX3) (N := 16) hx hb hts iv_k_X10_loops_X3 hown hK hP 4 rfl rfl 9 (by decide) (hE.at (.fieldLinkNest "AnswerFold" 269 "AnswerFold$Grounding" "keptCount" "I" "AnswerFold") (by decide +kernel)) (fun _ h9 => h9) rfl dX10_loops_11 ?_
  refine lv_sipush (v := 300) hx hb dX10_loops_14 (by decide) ?_
  refine lv_icmp_le (tgt := 31) hx hb dX10_loops_17 (by decide) (fun _ => ?_) (fun c0 => absurd (by decide) c0)
  refine lv_aload_n hx hb dX10_loops_31 rfl (lv_at hl 0 rfl) ?_
  refine va_get (D := D) (ci := 15) (v := .ref x39) (C := RX10) (T := TX10) (N := 7) hx hb hts iv_k_X10_loops_X10 hown hK hP 0 rfl rfl 3 (by decide) (hts (.fieldLink RX10 39 "AnswerFold" "loopFinder" "LAnswerFold$LoopFinder;") (by decide +kernel)) (fun _ h9 => h9) rfl dX10_loops_32 ?_
  refine wq_i (wc := [(x39, .inr (10, [.ref x8, .ref x40])), (x8, .inr (8, [.ref x1, .ref x9, .ref x10, .ref x12, .ref x14, .int 0, .ref x15, .ref x16, .ref x17, .int 0, .ref x18, .ref x19, .int 0, .int 1, .int 2, .int 0]))]) (wr := [(x0, .inr (15, [.ref x1, .ref x8, .ref x20, .ref x39, .ref x41, .ref x43, .ref x45])), (x17, .inl (ty 0, 20, .inl (fun _ => 0))), (x1, .inr (11, [.ref x2, .int 0, .ref x3, .int 0, .ref x4, .ref x5, .int 1, .ref x6, .ref x7, .int 0])), (x10, .inr (6, [.ref x11])), (x11, .inl (ty 1, 6, .inr (.inl (fun _ => 0)))), (x12, .inr (6, [.ref x13])), (x13, .inl (ty 1, 6, .inr (.inl (fun _ => 0)))), (x19, .inl (ty 0, 384, .inl (fun j => if j < 384 then (-1) else 0)))]) (va_runV (As := []) (rest := []) ⟨hx, hb, hml, hown, hts⟩ (a_X5_countLoops_0 l D ty td mi H.size x39 x8 x40 x1 x9 x10 x12 x14 x15 x16 x17 x18 x19) (cwV 0 hts gv_k_X10_loops_1 rfl rfl rfl (by decide +kernel) ⟨(Nat.le_of_ble_eq_true rfl), (Nat.le_of_ble_eq_true rfl)⟩) (wq_preV hP hD hK hE hS hA [1, 4] rfl (by decide) 1 10 rfl rfl) rfl rfl hl.1 rfl (lv_room (Nat.le_of_ble_eq_true rfl)) dX10_loops_35 ⟨(Nat.le_of_ble_eq_true rfl), (Nat.le_of_ble_eq_true rfl)⟩) hS hA hP hD [1, 4] [0, 2, 3, 5, 6, 7, 8, 9] rfl rfl (by decide) (by decide) (fun r u H locs hw hP hD hS => ?_)
  obtain ⟨rfl, rfl⟩ := hw
  have hP : va_P D vwCl [(x0, .inr (15, [.ref x1, .ref x8, .ref x20, .ref x39, .ref x41, .ref x43, .ref x45])), (x17, .inl (ty 0, 20, .inl (fun _ => 0))), (x1, .inr (11, [.ref x2, .int 0, .ref x3, .int 0, .ref x4, .ref x5, .int 1, .ref x6, .ref x7, .int 0])), (x10, .inr (6, [.ref x11])), (x11, .inl (ty 1, 6, .inr (.inl (fun _ => 0)))), (x12, .inr (6, [.ref x13])), (x13, .inl (ty 1, 6, .inr (.inl (fun _ => 0)))), (x19, .inl (ty 0, 384, .inl (fun j => if j < 384 then (-1) else 0))), (x39, .inr (10, [.ref x8, .ref x40])), (x8, .inr (8, [.ref x1, .ref x9, .ref x10, .ref x12, .ref x14, .int 0, .ref x15, .ref x16, .ref x17, .int 0, .ref x18, .ref x19, .int 0, .int 1, .int 2, .int 0]))] H := hP
  have hD : va_D A [(x0, .inr (15, [.ref x1, .ref x8, .ref x20, .ref x39, .ref x41, .ref x43, .ref x45])), (x17, .inl (ty 0, 20, .inl (fun _ => 0))), (x1, .inr (11, [.ref x2, .int 0, .ref x3, .int 0, .ref x4, .ref x5, .int 1, .ref x6, .ref x7, .int 0])), (x10, .inr (6, [.ref x11])), (x11, .inl (ty 1, 6, .inr (.inl (fun _ => 0)))), (x12, .inr (6, [.ref x13])), (x13, .inl (ty 1, 6, .inr (.inl (fun _ => 0)))), (x19, .inl (ty 0, 384, .inl (fun j => if j < 384 then (-1) else 0))), (x39, .inr (10, [.ref x8, .ref x40])), (x8, .inr (8, [.ref x1, .ref x9, .ref x10, .ref x12, .ref x14, .int 0, .ref x15, .ref x16, .ref x17, .int 0, .ref x18, .ref x19, .int 0, .int 1, .int 2, .int 0]))] := hD
  refine W.widen (k := 0) (n := 0) (Nat.le_of_ble_eq_true rfl) (Nat.le_of_ble_eq_true rfl) ?_
  have hP9 := hP.sub (ws' := []) [] rfl
  have hD9 := hD.sub (ws' := []) [] (by decide) rfl
  refine W.widen (k := 0) (n := 0) (Nat.le_of_ble_eq_true rfl) (Nat.le_of_ble_eq_true rfl) ?_
  exact W.iret (v := 0) hx hb hr (fun t ht hW => ⟨⟨0, [], rfl, ⟨rfl, rfl⟩, wq_B.of ht hP9 hD9⟩, hS.F ht⟩) hS.2.2 dX10_loops_38
def vs_a_X9_noteRules_0 : List Cond := .code yX9_noteRules cX9_noteRules 3 none :: ([.fieldLink RX9 106 "AnswerFold$Solver" "choices" "I", .fieldLink RX9 109 "AnswerFold$Solver" "counting" "I", .fieldLink RX9 34 "AnswerFold$Solver" "program" "LAnswerFold$Program;"] ++ (u_ws RX9 TX9 17 ++ (u_ws RX6 TX6 10)))
theorem iv_a_X9_noteRules_0_X6 : ∀ w ∈ u_ws RX6 TX6 10, w ∈ vs_a_X9_noteRules_0 := (fun _ h => List.mem_cons_of_mem _ (List.mem_append_right _ (List.mem_append_right _ (h))))
theorem iv_a_X9_noteRules_0_X9 : ∀ w ∈ u_ws RX9 TX9 17, w ∈ vs_a_X9_noteRules_0 := (fun _ h => List.mem_cons_of_mem _ (List.mem_append_right _ (List.mem_append_left _ h)))
set_option maxHeartbeats 4000000 in
set_option maxRecDepth 100000 in
theorem a_X9_noteRules_0 (l : Launch) (D : va_G) (ty : Nat → ClassId) (td mi sz : Nat) (x20 : Nat) (x1 : Nat) (x8 : Nat) (x21 : Nat) (x28 : Nat) (x35 : Nat) (x36 : Nat) (x37 : Nat) (x38 : Nat) (x2 : Nat) (x3 : Nat) (x4 : Nat) (x5 : Nat) (x6 : Nat) (x7 : Nat) : Met l yX9_noteRules vs_a_X9_noteRules_0 { frames := 0, cells := 0, slots := 0, locals := 0 } (va_Pc [.ref x20] (wq_P D ty td mi [(x20, .inr (14, [.ref x1, .ref x8, .ref x21, .ref x28, .ref x35, .int 0, .ref x36, .ref x37, .ref x38, .int 0, .int 0, .int 0, .int 0, .int 0, .int 0, .int 0, .int 0])), (x1, .inr (11, [.ref x2, .int 0, .ref x3, .int 0, .ref x4, .ref x5, .int 1, .ref x6, .ref x7, .int 0]))] sz)) (va_Qv (fun u : va_W => ((u = [(x20, .inr (14, [.ref x1, .ref x8, .ref x21, .ref x28, .ref x35, .int 0, .ref x36, .ref x37, .ref x38, .int 0, .int 0, .int 0, .int 0, .int 0, .int 0, .int 0, .int 0])), (x1, .inr (11, [.ref x2, .int 0, .ref x3, .int 0, .ref x4, .ref x5, .int 1, .ref x6, .ref x7, .int 0]))]))) (wq_B D (va_A [(x20, .inr (14, [.ref x1, .ref x8, .ref x21, .ref x28, .ref x35, .int 0, .ref x36, .ref x37, .ref x38, .int 0, .int 0, .int 0, .int 0, .int 0, .int 0, .int 0, .int 0])), (x1, .inr (11, [.ref x2, .int 0, .ref x3, .int 0, .ref x4, .ref x5, .int 1, .ref x6, .ref x7, .int 0]))] sz)) (va_A [(x20, .inr (14, [.ref x1, .ref x8, .ref x21, .ref x28, .ref x35, .int 0, .ref x36, .ref x37, .ref x38, .int 0, .int 0, .int 0, .int 0, .int 0, .int 0, .int 0, .int 0])), (x1, .inr (11, [.ref x2, .int 0, .ref x3, .int 0, .ref x4, .ref x5, .int 1, .ref x6, .ref x7, .int 0]))] sz)) 0 0 (va_A [(x20, .inr (14, [.ref x1, .ref x8, .ref x21, .ref x28, .ref x35, .int 0, .ref x36, .ref x37, .ref x38, .int 0, .int 0, .int 0, .int 0, .int 0, .int 0, .int 0, .int 0])), (x1, .inr (11, [.ref x2, .int 0, .ref x3, .int 0, .ref x4, .ref x5, .int 1, .ref x6, .ref x7, .int 0]))] sz) := by
  refine Met.ofW (cc := cX9_noteRules) (maxL := 3) (ret := none) (by decide) rfl ?_
  intro p e s m args below meth c s₁ B hml hv
  obtain ⟨rfl, hsz, hP, hK, hD0, hE⟩ := hv
  have hx := B.exec
  have hb := B.bytes
  have hr := B.returns
  have hts := atoms_spec (ws := vs_a_X9_noteRules_0) B.pre
  have hown : s.vm.findClass RX9 = some m.cls := findClass_of_methodNamed B.named
  have hlocks := B.notSynchronized
  subst hsz
  have hD := hD0.self (sz := s.heap.size)
  generalize hAe : va_A [(x20, .inr (14, [.ref x1, .ref x8, .ref x21, .ref x28, .ref x35, .int 0, .ref x36, .ref x37, .ref x38, .int 0, .int 0, .int 0, .int 0, .int 0, .int 0, .int 0, .int 0])), (x1, .inr (11, [.ref x2, .int 0, .ref x3, .int 0, .ref x4, .ref x5, .int 1, .ref x6, .ref x7, .int 0]))] s.heap.size = A at hD hE ⊢
  have hA : ∀ q : Nat, s.heap.size ≤ q → A q := fun q h => by rw [← hAe]; exact Or.inr h
  have hS : va_S A s.heap s.heap [] := va_S.rf
  have hP : va_P D vwCl [(x20, .inr (14, [.ref x1, .ref x8, .ref x21, .ref x28, .ref x35, .int 0, .ref x36, .ref x37, .ref x38, .int 0, .int 0, .int 0, .int 0, .int 0, .int 0, .int 0, .int 0])), (x1, .inr (11, [.ref x2, .int 0, .ref x3, .int 0, .ref x4, .ref x5, .int 1, .ref x6, .ref x7, .int 0]))] s.heap := hP
  have hl := lv_entry ([.ref x20]) (n := 3) (Nat.le_of_ble_eq_true rfl)
  rw [lg_entry_eq]
  generalize (lg_sl ([.ref x20]) ++ List.replicate (3 - (lg_sl ([.ref x20])).length) Slot.unset).toArray = ls at hl ⊢
  have hl : lv_has ls 3 [(0, .ref x20)] := hl
  refine lv_aload_n hx hb dX9_noteRules_0 rfl (lv_at hl 0 rfl) ?_
  refine lv_iconst (v := 0) hx hb dX9_noteRules_1 (by decide) ?_
  refine va_put (D := D) (ci := 14) (v := .int 0) (ty := tyX9 9) (C := RX9) (T := TX9) (N := 17) hx hb hts iv_a_X9_noteRules_0_X9 tyX9 tyX9_ok nmX9 hown hK hP hD hS 0 rfl rfl 9 (by decide) (hts (.fieldLink RX9 106 "AnswerFold$Solver" "choices" "I") (by decide +kernel)) (fun _ h9 => h9) rfl (by decide +kernel) rfl rfl (Nat.le_of_ble_eq_true rfl) dX9_noteRules_2 (fun H locs hP hD hS => ?_)
  have hP : va_P D vwCl [(x20, .inr (14, [.ref x1, .ref x8, .ref x21, .ref x28, .ref x35, .int 0, .ref x36, .ref x37, .ref x38, .int 0, .int 0, .int 0, .int 0, .int 0, .int 0, .int 0, .int 0])), (x1, .inr (11, [.ref x2, .int 0, .ref x3, .int 0, .ref x4, .ref x5, .int 1, .ref x6, .ref x7, .int 0]))] H := hP
  have hD : va_D A [(x20, .inr (14, [.ref x1, .ref x8, .ref x21, .ref x28, .ref x35, .int 0, .ref x36, .ref x37, .ref x38, .int 0, .int 0, .int 0, .int 0, .int 0, .int 0, .int 0, .int 0])), (x1, .inr (11, [.ref x2, .int 0, .ref x3, .int 0, .ref x4, .ref x5, .int 1, .ref x6, .ref x7, .int 0]))] := hD
  refine lv_aload_n hx hb dX9_noteRules_5 rfl (lv_at hl 0 rfl) ?_
  refine lv_iconst (v := 0) hx hb dX9_noteRules_6 (by decide) ?_
  refine va_put (D := D) (ci := 14) (v := .int 0) (ty := tyX9 10) (C := RX9) (T := TX9) (N := 17) hx hb hts iv_a_X9_noteRules_0_X9 tyX9 tyX9_ok nmX9 hown hK hP hD hS 0 rfl rfl 10 (by decide) (hts (.fieldLink RX9 109 "AnswerFold$Solver" "counting" "I") (by decide +kernel)) (fun _ h9 => h9) rfl (by decide +kernel) rfl rfl (Nat.le_of_ble_eq_true rfl) dX9_noteRules_7 (fun H locs hP hD hS => ?_)
  have hP : va_P D vwCl [(x20, .inr (14, [.ref x1, .ref x8, .ref x21, .ref x28, .ref x35, .int 0, .ref x36, .ref x37, .ref x38, .int 0, .int 0, .int 0, .int 0, .int 0, .int 0, .int 0, .int 0])), (x1, .inr (11, [.ref x2, .int 0, .ref x3, .int 0, .ref x4, .ref x5, .int 1, .ref x6, .ref x7, .int 0]))] H := hP
  have hD : va_D A [(x20, .inr (14, [.ref x1, .ref x8, .ref x21, .ref x28, .ref x35, .int 0, .ref x36, .ref x37, .ref x38, .int 0, .int 0, .int 0, .int 0, .int 0, .int 0, .int 0, .int 0])), (x1, .inr (11, [.ref x2, .int 0, .ref x3, .int 0, .ref x4, .ref x5, .int 1, .ref x6, .ref x7, .int 0]))] := hD
  refine lv_iconst (v := 0) hx hb dX9_noteRules_10 (by decide) ?_
  refine lv_istore_n (lv' := [(1, .int 0), (0, .ref x20)]) hx hb dX9_noteRules_11 rfl hl (by decide) rfl (fun ls hl => ?_)
  refine lv_iload_n hx hb dX9_noteRules_12 rfl (lv_at hl 0 rfl) ?_
  refine lv_aload_n hx hb dX9_noteRules_13 rfl (lv_at hl 1 rfl) ?_
  refine va_get (D := D) (ci := 14) (v := .ref x1) (C := RX9) (T := TX9) (N := 17) hx hb hts iv_a_X9_noteRules_0_X9 hown hK hP 0 rfl rfl 0 (by decide) (hts (.fieldLink RX9 34 "AnswerFold$Solver" "program" "LAnswerFold$Program;") (by decide +kernel)) (fun _ h9 => h9) rfl dX9_noteRules_14 ?_
  refine va_getN (D := D) (ci := 11) (v := .int 0) (C := RX6) (T := TX6) (N := 10) hx hb hts iv_a_X9_noteRules_0_X6 hown hK hP 1 rfl rfl 3 (by decide) (hE.at (.fieldLinkNest "AnswerFold$Solver" 112 "AnswerFold$Program" "ruleCount" "I" "AnswerFold") (by decide +kernel)) (fun _ h9 => h9) rfl dX9_noteRules_17 ?_
  refine lv_icmp_ge (tgt := 85) hx hb dX9_noteRules_20 (by decide) (fun _ => ?_) (fun c0 => absurd (by decide) c0)
  have hP9 := hP.sub (ws' := [(x20, .inr (14, [.ref x1, .ref x8, .ref x21, .ref x28, .ref x35, .int 0, .ref x36, .ref x37, .ref x38, .int 0, .int 0, .int 0, .int 0, .int 0, .int 0, .int 0, .int 0])), (x1, .inr (11, [.ref x2, .int 0, .ref x3, .int 0, .ref x4, .ref x5, .int 1, .ref x6, .ref x7, .int 0]))]) [0, 1] rfl
  have hD9 := hD.sub (ws' := [(x20, .inr (14, [.ref x1, .ref x8, .ref x21, .ref x28, .ref x35, .int 0, .ref x36, .ref x37, .ref x38, .int 0, .int 0, .int 0, .int 0, .int 0, .int 0, .int 0, .int 0])), (x1, .inr (11, [.ref x2, .int 0, .ref x3, .int 0, .ref x4, .ref x5, .int 1, .ref x6, .ref x7, .int 0]))]) [0, 1] (by decide) rfl
  refine W.widen (k := 0) (n := 0) (Nat.le_of_ble_eq_true rfl) (Nat.le_of_ble_eq_true rfl) ?_
  exact W.vret hx hb hr (fun t ht hW => ⟨⟨[(x20, .inr (14, [.ref x1, .ref x8, .ref x21, .ref x28, .ref x35, .int 0, .ref x36, .ref x37, .ref x38, .int 0, .int 0, .int 0, .int 0, .int 0, .int 0, .int 0, .int 0])), (x1, .inr (11, [.ref x2, .int 0, .ref x3, .int 0, .ref x4, .ref x5, .int 1, .ref x6, .ref x7, .int 0]))], rfl, rfl, wq_B.of ht hP9 hD9⟩, hS.F ht⟩) hS.2.2 dX9_noteRules_85
def vs_a_X9_compile_0 : List Cond := .code yX9_compile cX9_compile 3 none :: ([.fieldLink RX9 25 "AnswerFold$Solver" "openBits" "[I", .fieldLink RX9 28 "AnswerFold$Solver" "sureCounts" "[I", .fieldLink RX9 38 "AnswerFold$Solver" "grounding" "LAnswerFold$Grounding;", .methodLink RX9 59 yX1_countOf, .instanceMethod yX1_countOf, .selects RX1 yX1_countOf yX1_countOf, .initialized RX1, .fieldLink RX9 75 "AnswerFold$Solver" "freeBits" "I", .fieldLink RX9 34 "AnswerFold$Solver" "program" "LAnswerFold$Program;", .methodLink RX9 90 yX9_noteRules, .instanceMethod yX9_noteRules, .selects RX9 yX9_noteRules yX9_noteRules, .initialized RX9, .fieldLink RX9 12 "AnswerFold$Solver" "checks" "LAnswerFold$Rows;", .fieldLink RX9 18 "AnswerFold$Solver" "weaks" "LAnswerFold$Rows;", .fieldLink RX9 103 "AnswerFold$Solver" "lastBroken" "I"] ++ (u_ws RX9 TX9 17 ++ (u_ws RX3 TX3 16 ++ (vs_k_X1_countOf_0 ++ (vs_k_X1_countOf_1 ++ (vs_k_X1_countOf_2 ++ (vs_k_X1_countOf_3 ++ (vs_k_X1_countOf_4 ++ (vs_k_X1_countOf_5 ++ (u_ws RX6 TX6 10 ++ (vs_a_X9_noteRules_0 ++ (u_ws RX7 TX7 7))))))))))))
theorem iv_a_X9_compile_0_X3 : ∀ w ∈ u_ws RX3 TX3 16, w ∈ vs_a_X9_compile_0 := (fun _ h => List.mem_cons_of_mem _ (List.mem_append_right _ (List.mem_append_right _ (List.mem_append_left _ h))))
theorem iv_a_X9_compile_0_X6 : ∀ w ∈ u_ws RX6 TX6 10, w ∈ vs_a_X9_compile_0 := (fun _ h => List.mem_cons_of_mem _ (List.mem_append_right _ (List.mem_append_right _ (List.mem_append_right _ (List.mem_append_right _ (List.mem_append_right _ (List.mem_append_right _ (List.mem_append_right _ (List.mem_append_right _ (List.mem_append_right _ (List.mem_append_left _ h)))))))))))
theorem iv_a_X9_compile_0_X7 : ∀ w ∈ u_ws RX7 TX7 7, w ∈ vs_a_X9_compile_0 := (fun _ h => List.mem_cons_of_mem _ (List.mem_append_right _ (List.mem_append_right _ (List.mem_append_right _ (List.mem_append_right _ (List.mem_append_right _ (List.mem_append_right _ (List.mem_append_right _ (List.mem_append_right _ (List.mem_append_right _ (List.mem_append_right _ (List.mem_append_right _ (h)))))))))))))
theorem iv_a_X9_compile_0_X9 : ∀ w ∈ u_ws RX9 TX9 17, w ∈ vs_a_X9_compile_0 := (fun _ h => List.mem_cons_of_mem _ (List.mem_append_right _ (List.mem_append_left _ h)))
set_option maxRecDepth 20000 in
theorem gv_a_X9_compile_0_0 : GoodIn vs_a_X9_compile_0 (wsV RX9 59 RX1 yX1_countOf vs_k_X1_countOf_0) := goodIn_app (goodIn_sub (by decide +kernel) (by decide +kernel)) (goodIn_sub (fun _ h => List.mem_cons_of_mem _ (List.mem_append_right _ (List.mem_append_right _ (List.mem_append_right _ (List.mem_append_left _ h))))) (by decide +kernel))
set_option maxRecDepth 20000 in
theorem gv_a_X9_compile_0_1 : GoodIn vs_a_X9_compile_0 (wsV RX9 59 RX1 yX1_countOf vs_k_X1_countOf_1) := goodIn_app (goodIn_sub (by decide +kernel) (by decide +kernel)) (goodIn_sub (fun _ h => List.mem_cons_of_mem _ (List.mem_append_right _ (List.mem_append_right _ (List.mem_append_right _ (List.mem_append_right _ (List.mem_append_left _ h)))))) (by decide +kernel))
set_option maxRecDepth 20000 in
theorem gv_a_X9_compile_0_2 : GoodIn vs_a_X9_compile_0 (wsV RX9 59 RX1 yX1_countOf vs_k_X1_countOf_2) := goodIn_app (goodIn_sub (by decide +kernel) (by decide +kernel)) (goodIn_sub (fun _ h => List.mem_cons_of_mem _ (List.mem_append_right _ (List.mem_append_right _ (List.mem_append_right _ (List.mem_append_right _ (List.mem_append_right _ (List.mem_append_left _ h))))))) (by decide +kernel))
set_option maxRecDepth 20000 in
theorem gv_a_X9_compile_0_3 : GoodIn vs_a_X9_compile_0 (wsV RX9 59 RX1 yX1_countOf vs_k_X1_countOf_3) := goodIn_app (goodIn_sub (by decide +kernel) (by decide +kernel)) (goodIn_sub (fun _ h => List.mem_cons_of_mem _ (List.mem_append_right _ (List.mem_append_right _ (List.mem_append_right _ (List.mem_append_right _ (List.mem_append_right _ (List.mem_append_right _ (List.mem_append_left _ h)))))))) (by decide +kernel))
set_option maxRecDepth 20000 in
theorem gv_a_X9_compile_0_4 : GoodIn vs_a_X9_compile_0 (wsV RX9 59 RX1 yX1_countOf vs_k_X1_countOf_4) := goodIn_app (goodIn_sub (by decide +kernel) (by decide +kernel)) (goodIn_sub (fun _ h => List.mem_cons_of_mem _ (List.mem_append_right _ (List.mem_append_right _ (List.mem_append_right _ (List.mem_append_right _ (List.mem_append_right _ (List.mem_append_right _ (List.mem_append_right _ (List.mem_append_left _ h))))))))) (by decide +kernel))
set_option maxRecDepth 20000 in
theorem gv_a_X9_compile_0_5 : GoodIn vs_a_X9_compile_0 (wsV RX9 59 RX1 yX1_countOf vs_k_X1_countOf_5) := goodIn_app (goodIn_sub (by decide +kernel) (by decide +kernel)) (goodIn_sub (fun _ h => List.mem_cons_of_mem _ (List.mem_append_right _ (List.mem_append_right _ (List.mem_append_right _ (List.mem_append_right _ (List.mem_append_right _ (List.mem_append_right _ (List.mem_append_right _ (List.mem_append_right _ (List.mem_append_left _ h)))))))))) (by decide +kernel))
set_option maxRecDepth 20000 in
theorem gv_a_X9_compile_0_6 : GoodIn vs_a_X9_compile_0 (wsV RX9 90 RX9 yX9_noteRules vs_a_X9_noteRules_0) := goodIn_app (goodIn_sub (by decide +kernel) (by decide +kernel)) (goodIn_sub (fun _ h => List.mem_cons_of_mem _ (List.mem_append_right _ (List.mem_append_right _ (List.mem_append_right _ (List.mem_append_right _ (List.mem_append_right _ (List.mem_append_right _ (List.mem_append_right _ (List.mem_append_right _ (List.mem_append_right _ (List.mem_append_right _ (List.mem_append_left _ h)))))))))))) (by decide +kernel))
set_option maxHeartbeats 4000000 in
set_option maxRecDepth 100000 in
theorem a_X9_compile_0 (l : Launch) (D : va_G) (ty : Nat → ClassId) (td mi sz : Nat) (x20 : Nat) (x1 : Nat) (x8 : Nat) (x21 : Nat) (x28 : Nat) (x35 : Nat) (x36 : Nat) (x37 : Nat) (x38 : Nat) (x22 : Nat) (x23 : Nat) (x24 : Nat) (x25 : Nat) (x26 : Nat) (x27 : Nat) (x29 : Nat) (x30 : Nat) (x31 : Nat) (x32 : Nat) (x33 : Nat) (x34 : Nat) (x2 : Nat) (x3 : Nat) (x4 : Nat) (x5 : Nat) (x6 : Nat) (x7 : Nat) (x9 : Nat) (x10 : Nat) (x12 : Nat) (x14 : Nat) (x15 : Nat) (x16 : Nat) (x17 : Nat) (x18 : Nat) (x19 : Nat) (x11 : Nat) : Met l yX9_compile vs_a_X9_compile_0 { frames := 2, cells := 0, slots := 0, locals := 42 } (va_Pc [.ref x20] (wq_P D ty td mi [(x20, .inr (14, [.ref x1, .ref x8, .ref x21, .ref x28, .ref x35, .int 0, .ref x36, .ref x37, .ref x38, .int 0, .int 0, .int 0, .int 0, .int 0, .int 0, .int 0, .int 0])), (x21, .inr (12, [.ref x22, .ref x23, .ref x24, .ref x25, .ref x26, .ref x27, .int 0])), (x28, .inr (12, [.ref x29, .ref x30, .ref x31, .ref x32, .ref x33, .ref x34, .int 0])), (x36, .inl (ty 0, 6, .inl (fun _ => 0))), (x37, .inl (ty 0, 6, .inl (fun _ => 0))), (x1, .inr (11, [.ref x2, .int 0, .ref x3, .int 0, .ref x4, .ref x5, .int 1, .ref x6, .ref x7, .int 0])), (x8, .inr (8, [.ref x1, .ref x9, .ref x10, .ref x12, .ref x14, .int 0, .ref x15, .ref x16, .ref x17, .int 0, .ref x18, .ref x19, .int 0, .int 1, .int 2, .int 0])), (x10, .inr (6, [.ref x11])), (x11, .inl (ty 1, 6, .inr (.inl (fun _ => 0))))] sz)) (va_Qv (fun u : va_W => ((u = [(x21, .inr (12, [.ref x22, .ref x23, .ref x24, .ref x25, .ref x26, .ref x27, .int 0])), (x28, .inr (12, [.ref x29, .ref x30, .ref x31, .ref x32, .ref x33, .ref x34, .int 0])), (x36, .inl (ty 0, 6, .inl (fun _ => 0))), (x37, .inl (ty 0, 6, .inl (fun _ => 0))), (x8, .inr (8, [.ref x1, .ref x9, .ref x10, .ref x12, .ref x14, .int 0, .ref x15, .ref x16, .ref x17, .int 0, .ref x18, .ref x19, .int 0, .int 1, .int 2, .int 0])), (x10, .inr (6, [.ref x11])), (x11, .inl (ty 1, 6, .inr (.inl (fun _ => 0)))), (x20, .inr (14, [.ref x1, .ref x8, .ref x21, .ref x28, .ref x35, .int 0, .ref x36, .ref x37, .ref x38, .int 0, .int 0, .int 0, .int 0, .int 0, .int 0, .int 0, .int 0])), (x1, .inr (11, [.ref x2, .int 0, .ref x3, .int 0, .ref x4, .ref x5, .int 1, .ref x6, .ref x7, .int 0]))]))) (wq_B D (va_A [(x20, .inr (14, [.ref x1, .ref x8, .ref x21, .ref x28, .ref x35, .int 0, .ref x36, .ref x37, .ref x38, .int 0, .int 0, .int 0, .int 0, .int 0, .int 0, .int 0, .int 0])), (x21, .inr (12, [.ref x22, .ref x23, .ref x24, .ref x25, .ref x26, .ref x27, .int 0])), (x28, .inr (12, [.ref x29, .ref x30, .ref x31, .ref x32, .ref x33, .ref x34, .int 0])), (x36, .inl (ty 0, 6, .inl (fun _ => 0))), (x37, .inl (ty 0, 6, .inl (fun _ => 0))), (x1, .inr (11, [.ref x2, .int 0, .ref x3, .int 0, .ref x4, .ref x5, .int 1, .ref x6, .ref x7, .int 0])), (x8, .inr (8, [.ref x1, .ref x9, .ref x10, .ref x12, .ref x14, .int 0, .ref x15, .ref x16, .ref x17, .int 0, .ref x18, .ref x19, .int 0, .int 1, .int 2, .int 0])), (x10, .inr (6, [.ref x11])), (x11, .inl (ty 1, 6, .inr (.inl (fun _ => 0))))] sz)) (va_A [(x20, .inr (14, [.ref x1, .ref x8, .ref x21, .ref x28, .ref x35, .int 0, .ref x36, .ref x37, .ref x38, .int 0, .int 0, .int 0, .int 0, .int 0, .int 0, .int 0, .int 0])), (x21, .inr (12, [.ref x22, .ref x23, .ref x24, .ref x25, .ref x26, .ref x27, .int 0])), (x28, .inr (12, [.ref x29, .ref x30, .ref x31, .ref x32, .ref x33, .ref x34, .int 0])), (x36, .inl (ty 0, 6, .inl (fun _ => 0))), (x37, .inl (ty 0, 6, .inl (fun _ => 0))), (x1, .inr (11, [.ref x2, .int 0, .ref x3, .int 0, .ref x4, .ref x5, .int 1, .ref x6, .ref x7, .int 0])), (x8, .inr (8, [.ref x1, .ref x9, .ref x10, .ref x12, .ref x14, .int 0, .ref x15, .ref x16, .ref x17, .int 0, .ref x18, .ref x19, .int 0, .int 1, .int 2, .int 0])), (x10, .inr (6, [.ref x11])), (x11, .inl (ty 1, 6, .inr (.inl (fun _ => 0))))] sz)) 0 0 (va_A [(x20, .inr (14, [.ref x1, .ref x8, .ref x21, .ref x28, .ref x35, .int 0, .ref x36, .ref x37, .ref x38, .int 0, .int 0, .int 0, .int 0, .int 0, .int 0, .int 0, .int 0])), (x21, .inr (12, [.ref x22, .ref x23, .ref x24, .ref x25, .ref x26, .ref x27, .int 0])), (x28, .inr (12, [.ref x29, .ref x30, .ref x31, .ref x32, .ref x33, .ref x34, .int 0])), (x36, .inl (ty 0, 6, .inl (fun _ => 0))), (x37, .inl (ty 0, 6, .inl (fun _ => 0))), (x1, .inr (11, [.ref x2, .int 0, .ref x3, .int 0, .ref x4, .ref x5, .int 1, .ref x6, .ref x7, .int 0])), (x8, .inr (8, [.ref x1, .ref x9, .ref x10, .ref x12, .ref x14, .int 0, .ref x15, .ref x16, .ref x17, .int 0, .ref x18, .ref x19, .int 0, .int 1, .int 2, .int 0])), (x10, .inr (6, [.ref x11])), (x11, .inl (ty 1, 6, .inr (.inl (fun _ => 0))))] sz) := by
  refine Met.ofW (cc := cX9_compile) (maxL := 3) (ret := none) (by decide) rfl ?_
  intro p e s m args below meth c s₁ B hml hv
  obtain ⟨rfl, hsz, hP, hK, hD0, hE⟩ := hv
  have hx := B.exec
  have hb := B.bytes
  have hr := B.returns
  have hts := atoms_spec (ws := vs_a_X9_compile_0) B.pre
  have hown : s.vm.findClass RX9 = some m.cls := findClass_of_methodNamed B.named
  have hlocks := B.notSynchronized
  subst hsz
  have hD := hD0.self (sz := s.heap.size)
  generalize hAe : va_A [(x20, .inr (14, [.ref x1, .ref x8, .ref x21, .ref x28, .ref x35, .int 0, .ref x36, .ref x37, .ref x38, .int 0, .int 0, .int 0, .int 0, .int 0, .int 0, .int 0, .int 0])), (x21, .inr (12, [.ref x22, .ref x23, .ref x24, .ref x25, .ref x26, .ref x27, .int 0])), (x28, .inr (12, [.ref x29, .ref x30, .ref x31, .ref x32, .ref x33, .ref x34, .int 0])), (x36, .inl (ty 0, 6, .inl (fun _ => 0))), (x37, .inl (ty 0, 6, .inl (fun _ => 0))), (x1, .inr (11, [.ref x2, .int 0, .ref x3, .int 0, .ref x4, .ref x5, .int 1, .ref x6, .ref x7, .int 0])), (x8, .inr (8, [.ref x1, .ref x9, .ref x10, .ref x12, .ref x14, .int 0, .ref x15, .ref x16, .ref x17, .int 0, .ref x18, .ref x19, .int 0, .int 1, .int 2, .int 0])), (x10, .inr (6, [.ref x11])), (x11, .inl (ty 1, 6, .inr (.inl (fun _ => 0))))] s.heap.size = A at hD hE ⊢
  have hA : ∀ q : Nat, s.heap.size ≤ q → A q := fun q h => by rw [← hAe]; exact Or.inr h
  have hS : va_S A s.heap s.heap [] := va_S.rf
  have hP : va_P D vwCl [(x20, .inr (14, [.ref x1, .ref x8, .ref x21, .ref x28, .ref x35, .int 0, .ref x36, .ref x37, .ref x38, .int 0, .int 0, .int 0, .int 0, .int 0, .int 0, .int 0, .int 0])), (x21, .inr (12, [.ref x22, .ref x23, .ref x24, .ref x25, .ref x26, .ref x27, .int 0])), (x28, .inr (12, [.ref x29, .ref x30, .ref x31, .ref x32, .ref x33, .ref x34, .int 0])), (x36, .inl (ty 0, 6, .inl (fun _ => 0))), (x37, .inl (ty 0, 6, .inl (fun _ => 0))), (x1, .inr (11, [.ref x2, .int 0, .ref x3, .int 0, .ref x4, .ref x5, .int 1, .ref x6, .ref x7, .int 0])), (x8, .inr (8, [.ref x1, .ref x9, .ref x10, .ref x12, .ref x14, .int 0, .ref x15, .ref x16, .ref x17, .int 0, .ref x18, .ref x19, .int 0, .int 1, .int 2, .int 0])), (x10, .inr (6, [.ref x11])), (x11, .inl (ty 1, 6, .inr (.inl (fun _ => 0))))] s.heap := hP
  have hl := lv_entry ([.ref x20]) (n := 3) (Nat.le_of_ble_eq_true rfl)
  rw [lg_entry_eq]
  generalize (lg_sl ([.ref x20]) ++ List.replicate (3 - (lg_sl ([.ref x20])).length) Slot.unset).toArray = ls at hl ⊢
  have hl : lv_has ls 3 [(0, .ref x20)] := hl
  refine lv_iconst (v := 0) hx hb dX9_compile_0 (by decide) ?_
  refine lv_istore_n (lv' := [(1, .int 0), (0, .ref x20)]) hx hb dX9_compile_1 rfl hl (by decide) rfl (fun ls hl => ?_)
  refine lv_iload_n hx hb dX9_compile_2 rfl (lv_at hl 0 rfl) ?_
  refine lv_bipush (v := 6) hx hb dX9_compile_3 (by decide) ?_
  refine lv_icmp_ge (tgt := 38) hx hb dX9_compile_5 (by decide) (fun c0 => absurd c0 (by decide)) (fun _ => ?_)
  refine lv_aload_n hx hb dX9_compile_8 rfl (lv_at hl 1 rfl) ?_
  refine va_get (D := D) (ci := 14) (v := .ref x36) (C := RX9) (T := TX9) (N := 17) hx hb hts iv_a_X9_compile_0_X9 hown hK hP 0 rfl rfl 6 (by decide) (hts (.fieldLink RX9 25 "AnswerFold$Solver" "openBits" "[I") (by decide +kernel)) (fun _ h9 => h9) rfl dX9_compile_9 ?_
  refine lv_iload_n hx hb dX9_compile_12 rfl (lv_at hl 0 rfl) ?_
  refine lv_iconst (v := 0) hx hb dX9_compile_13 (by decide) ?_
  refine va_iast (D := D) hx hb hK hP hD hS 3 0 rfl rfl (vp_in_iff.mpr (by decide)) dX9_compile_14 (fun H locs hP hD hS => ?_)
  rw [wq_upd0] at hP hD
  have hP : va_P D vwCl [(x20, .inr (14, [.ref x1, .ref x8, .ref x21, .ref x28, .ref x35, .int 0, .ref x36, .ref x37, .ref x38, .int 0, .int 0, .int 0, .int 0, .int 0, .int 0, .int 0, .int 0])), (x21, .inr (12, [.ref x22, .ref x23, .ref x24, .ref x25, .ref x26, .ref x27, .int 0])), (x28, .inr (12, [.ref x29, .ref x30, .ref x31, .ref x32, .ref x33, .ref x34, .int 0])), (x36, .inl (ty 0, 6, .inl (fun _ => 0))), (x37, .inl (ty 0, 6, .inl (fun _ => 0))), (x1, .inr (11, [.ref x2, .int 0, .ref x3, .int 0, .ref x4, .ref x5, .int 1, .ref x6, .ref x7, .int 0])), (x8, .inr (8, [.ref x1, .ref x9, .ref x10, .ref x12, .ref x14, .int 0, .ref x15, .ref x16, .ref x17, .int 0, .ref x18, .ref x19, .int 0, .int 1, .int 2, .int 0])), (x10, .inr (6, [.ref x11])), (x11, .inl (ty 1, 6, .inr (.inl (fun _ => 0))))] H := hP
  have hD : va_D A [(x20, .inr (14, [.ref x1, .ref x8, .ref x21, .ref x28, .ref x35, .int 0, .ref x36, .ref x37, .ref x38, .int 0, .int 0, .int 0, .int 0, .int 0, .int 0, .int 0, .int 0])), (x21, .inr (12, [.ref x22, .ref x23, .ref x24, .ref x25, .ref x26, .ref x27, .int 0])), (x28, .inr (12, [.ref x29, .ref x30, .ref x31, .ref x32, .ref x33, .ref x34, .int 0])), (x36, .inl (ty 0, 6, .inl (fun _ => 0))), (x37, .inl (ty 0, 6, .inl (fun _ => 0))), (x1, .inr (11, [.ref x2, .int 0, .ref x3, .int 0, .ref x4, .ref x5, .int 1, .ref x6, .ref x7, .int 0])), (x8, .inr (8, [.ref x1, .ref x9, .ref x10, .ref x12, .ref x14, .int 0, .ref x15, .ref x16, .ref x17, .int 0, .ref x18, .ref x19, .int 0, .int 1, .int 2, .int 0])), (x10, .inr (6, [.ref x11])), (x11, .inl (ty 1, 6, .inr (.inl (fun _ => 0))))] := hD
  refine lv_aload_n hx hb dX9_compile_15 rfl (lv_at hl 1 rfl) ?_
  refine va_get (D := D) (ci := 14) (v := .ref x37) (C := RX9) (T := TX9) (N := 17) hx hb hts iv_a_X9_compile_0_X9 hown hK hP 0 rfl rfl 7 (by decide) (hts (.fieldLink RX9 28 "AnswerFold$Solver" "sureCounts" "[I") (by decide +kernel)) (fun _ h9 => h9) rfl dX9_compile_16 ?_
  refine lv_iload_n hx hb dX9_compile_19 rfl (lv_at hl 0 rfl) ?_
  refine lv_aload_n hx hb dX9_compile_20 rfl (lv_at hl 1 rfl) ?_
  refine va_get (D := D) (ci := 14) (v := .ref x8) (C := RX9) (T := TX9) (N := 17) hx hb hts iv_a_X9_compile_0_X9 hown hK hP 0 rfl rfl 1 (by decide) (hts (.fieldLink RX9 38 "AnswerFold$Solver" "grounding" "LAnswerFold$Grounding;") (by decide +kernel)) (fun _ h9 => h9) rfl dX9_compile_21 ?_
  refine va_getN (D := D) (ci := 8) (v := .ref x10) (C := RX3) (T := TX3) (N := 16) hx hb hts iv_a_X9_compile_0_X3 hown hK hP 6 rfl rfl 2 (by decide) (hE.at (.fieldLinkNest "AnswerFold$Solver" 53 "AnswerFold$Grounding" "sure" "LAnswerFold$AtomSet;" "AnswerFold") (by decide +kernel)) (fun _ h9 => h9) rfl dX9_compile_24 ?_
  refine lv_iload_n hx hb dX9_compile_27 rfl (lv_at hl 0 rfl) ?_
  refine wq_i (wc := [(x10, .inr (6, [.ref x11])), (x11, .inl (ty 1, 6, .inr (.inl (fun _ => 0))))]) (wr := [(x20, .inr (14, [.ref x1, .ref x8, .ref x21, .ref x28, .ref x35, .int 0, .ref x36, .ref x37, .ref x38, .int 0, .int 0, .int 0, .int 0, .int 0, .int 0, .int 0, .int 0])), (x21, .inr (12, [.ref x22, .ref x23, .ref x24, .ref x25, .ref x26, .ref x27, .int 0])), (x28, .inr (12, [.ref x29, .ref x30, .ref x31, .ref x32, .ref x33, .ref x34, .int 0])), (x36, .inl (ty 0, 6, .inl (fun _ => 0))), (x37, .inl (ty 0, 6, .inl (fun _ => 0))), (x1, .inr (11, [.ref x2, .int 0, .ref x3, .int 0, .ref x4, .ref x5, .int 1, .ref x6, .ref x7, .int 0])), (x8, .inr (8, [.ref x1, .ref x9, .ref x10, .ref x12, .ref x14, .int 0, .ref x15, .ref x16, .ref x17, .int 0, .ref x18, .ref x19, .int 0, .int 1, .int 2, .int 0]))]) (va_runV (As := [.int 0]) (rest := [.int 0, .ref x37]) ⟨hx, hb, hml, hown, hts⟩ (k_X1_countOf_0 l D ty td mi H.size x10 x11) (cwV 1 hts gv_a_X9_compile_0_0 rfl rfl rfl (by decide +kernel) ⟨(Nat.le_of_ble_eq_true rfl), (Nat.le_of_ble_eq_true rfl)⟩) (wq_preV hP hD hK hE hS hA [7, 8] rfl (by decide) 7 6 rfl rfl) rfl rfl hl.1 rfl (lv_room (Nat.le_of_ble_eq_true rfl)) dX9_compile_28 ⟨(Nat.le_of_ble_eq_true rfl), (Nat.le_of_ble_eq_true rfl)⟩) hS hA hP hD [7, 8] [0, 1, 2, 3, 4, 5, 6] rfl rfl (by decide) (by decide) (fun r u H locs hw hP hD hS => ?_)
  obtain ⟨rfl, rfl⟩ := hw
  have hP : va_P D vwCl [(x20, .inr (14, [.ref x1, .ref x8, .ref x21, .ref x28, .ref x35, .int 0, .ref x36, .ref x37, .ref x38, .int 0, .int 0, .int 0, .int 0, .int 0, .int 0, .int 0, .int 0])), (x21, .inr (12, [.ref x22, .ref x23, .ref x24, .ref x25, .ref x26, .ref x27, .int 0])), (x28, .inr (12, [.ref x29, .ref x30, .ref x31, .ref x32, .ref x33, .ref x34, .int 0])), (x36, .inl (ty 0, 6, .inl (fun _ => 0))), (x37, .inl (ty 0, 6, .inl (fun _ => 0))), (x1, .inr (11, [.ref x2, .int 0, .ref x3, .int 0, .ref x4, .ref x5, .int 1, .ref x6, .ref x7, .int 0])), (x8, .inr (8, [.ref x1, .ref x9, .ref x10, .ref x12, .ref x14, .int 0, .ref x15, .ref x16, .ref x17, .int 0, .ref x18, .ref x19, .int 0, .int 1, .int 2, .int 0])), (x10, .inr (6, [.ref x11])), (x11, .inl (ty 1, 6, .inr (.inl (fun _ => 0))))] H := hP
  have hD : va_D A [(x20, .inr (14, [.ref x1, .ref x8, .ref x21, .ref x28, .ref x35, .int 0, .ref x36, .ref x37, .ref x38, .int 0, .int 0, .int 0, .int 0, .int 0, .int 0, .int 0, .int 0])), (x21, .inr (12, [.ref x22, .ref x23, .ref x24, .ref x25, .ref x26, .ref x27, .int 0])), (x28, .inr (12, [.ref x29, .ref x30, .ref x31, .ref x32, .ref x33, .ref x34, .int 0])), (x36, .inl (ty 0, 6, .inl (fun _ => 0))), (x37, .inl (ty 0, 6, .inl (fun _ => 0))), (x1, .inr (11, [.ref x2, .int 0, .ref x3, .int 0, .ref x4, .ref x5, .int 1, .ref x6, .ref x7, .int 0])), (x8, .inr (8, [.ref x1, .ref x9, .ref x10, .ref x12, .ref x14, .int 0, .ref x15, .ref x16, .ref x17, .int 0, .ref x18, .ref x19, .int 0, .int 1, .int 2, .int 0])), (x10, .inr (6, [.ref x11])), (x11, .inl (ty 1, 6, .inr (.inl (fun _ => 0))))] := hD
  refine W.widen (k := 0) (n := 0) (Nat.le_of_ble_eq_true rfl) (Nat.le_of_ble_eq_true rfl) ?_
  refine va_iast (D := D) hx hb hK hP hD hS 4 0 rfl rfl (vp_in_iff.mpr (by decide)) dX9_compile_31 (fun H locs hP hD hS => ?_)
  rw [wq_upd0] at hP hD
  have hP : va_P D vwCl [(x20, .inr (14, [.ref x1, .ref x8, .ref x21, .ref x28, .ref x35, .int 0, .ref x36, .ref x37, .ref x38, .int 0, .int 0, .int 0, .int 0, .int 0, .int 0, .int 0, .int 0])), (x21, .inr (12, [.ref x22, .ref x23, .ref x24, .ref x25, .ref x26, .ref x27, .int 0])), (x28, .inr (12, [.ref x29, .ref x30, .ref x31, .ref x32, .ref x33, .ref x34, .int 0])), (x36, .inl (ty 0, 6, .inl (fun _ => 0))), (x37, .inl (ty 0, 6, .inl (fun _ => 0))), (x1, .inr (11, [.ref x2, .int 0, .ref x3, .int 0, .ref x4, .ref x5, .int 1, .ref x6, .ref x7, .int 0])), (x8, .inr (8, [.ref x1, .ref x9, .ref x10, .ref x12, .ref x14, .int 0, .ref x15, .ref x16, .ref x17, .int 0, .ref x18, .ref x19, .int 0, .int 1, .int 2, .int 0])), (x10, .inr (6, [.ref x11])), (x11, .inl (ty 1, 6, .inr (.inl (fun _ => 0))))] H := hP
  have hD : va_D A [(x20, .inr (14, [.ref x1, .ref x8, .ref x21, .ref x28, .ref x35, .int 0, .ref x36, .ref x37, .ref x38, .int 0, .int 0, .int 0, .int 0, .int 0, .int 0, .int 0, .int 0])), (x21, .inr (12, [.ref x22, .ref x23, .ref x24, .ref x25, .ref x26, .ref x27, .int 0])), (x28, .inr (12, [.ref x29, .ref x30, .ref x31, .ref x32, .ref x33, .ref x34, .int 0])), (x36, .inl (ty 0, 6, .inl (fun _ => 0))), (x37, .inl (ty 0, 6, .inl (fun _ => 0))), (x1, .inr (11, [.ref x2, .int 0, .ref x3, .int 0, .ref x4, .ref x5, .int 1, .ref x6, .ref x7, .int 0])), (x8, .inr (8, [.ref x1, .ref x9, .ref x10, .ref x12, .ref x14, .int 0, .ref x15, .ref x16, .ref x17, .int 0, .ref x18, .ref x19, .int 0, .int 1, .int 2, .int 0])), (x10, .inr (6, [.ref x11])), (x11, .inl (ty 1, 6, .inr (.inl (fun _ => 0))))] := hD
  refine lv_iinc (v := 1) (lv' := [(1, .int 1), (0, .ref x20)]) hx hb dX9_compile_32 hl (k := 0) rfl (by decide) (by decide) rfl (fun ls hl => ?_)
  refine lv_goto (tgt := 2) hx hb dX9_compile_35 (by decide) ?_
  refine lv_iload_n hx hb dX9_compile_2 rfl (lv_at hl 0 rfl) ?_
  refine lv_bipush (v := 6) hx hb dX9_compile_3 (by decide) ?_
  refine lv_icmp_ge (tgt := 38) hx hb dX9_compile_5 (by decide) (fun c0 => absurd c0 (by decide)) (fun _ => ?_)
  refine lv_aload_n hx hb dX9_compile_8 rfl (lv_at hl 1 rfl) ?_
  refine va_get (D := D) (ci := 14) (v := .ref x36) (C := RX9) (T := TX9) (N := 17) hx hb hts iv_a_X9_compile_0_X9 hown hK hP 0 rfl rfl 6 (by decide) (hts (.fieldLink RX9 25 "AnswerFold$Solver" "openBits" "[I") (by decide +kernel)) (fun _ h9 => h9) rfl dX9_compile_9 ?_
  refine lv_iload_n hx hb dX9_compile_12 rfl (lv_at hl 0 rfl) ?_
  refine lv_iconst (v := 0) hx hb dX9_compile_13 (by decide) ?_
  refine va_iast (D := D) hx hb hK hP hD hS 3 0 rfl rfl (vp_in_iff.mpr (by decide)) dX9_compile_14 (fun H locs hP hD hS => ?_)
  rw [wq_upd0] at hP hD
  have hP : va_P D vwCl [(x20, .inr (14, [.ref x1, .ref x8, .ref x21, .ref x28, .ref x35, .int 0, .ref x36, .ref x37, .ref x38, .int 0, .int 0, .int 0, .int 0, .int 0, .int 0, .int 0, .int 0])), (x21, .inr (12, [.ref x22, .ref x23, .ref x24, .ref x25, .ref x26, .ref x27, .int 0])), (x28, .inr (12, [.ref x29, .ref x30, .ref x31, .ref x32, .ref x33, .ref x34, .int 0])), (x36, .inl (ty 0, 6, .inl (fun _ => 0))), (x37, .inl (ty 0, 6, .inl (fun _ => 0))), (x1, .inr (11, [.ref x2, .int 0, .ref x3, .int 0, .ref x4, .ref x5, .int 1, .ref x6, .ref x7, .int 0])), (x8, .inr (8, [.ref x1, .ref x9, .ref x10, .ref x12, .ref x14, .int 0, .ref x15, .ref x16, .ref x17, .int 0, .ref x18, .ref x19, .int 0, .int 1, .int 2, .int 0])), (x10, .inr (6, [.ref x11])), (x11, .inl (ty 1, 6, .inr (.inl (fun _ => 0))))] H := hP
  have hD : va_D A [(x20, .inr (14, [.ref x1, .ref x8, .ref x21, .ref x28, .ref x35, .int 0, .ref x36, .ref x37, .ref x38, .int 0, .int 0, .int 0, .int 0, .int 0, .int 0, .int 0, .int 0])), (x21, .inr (12, [.ref x22, .ref x23, .ref x24, .ref x25, .ref x26, .ref x27, .int 0])), (x28, .inr (12, [.ref x29, .ref x30, .ref x31, .ref x32, .ref x33, .ref x34, .int 0])), (x36, .inl (ty 0, 6, .inl (fun _ => 0))), (x37, .inl (ty 0, 6, .inl (fun _ => 0))), (x1, .inr (11, [.ref x2, .int 0, .ref x3, .int 0, .ref x4, .ref x5, .int 1, .ref x6, .ref x7, .int 0])), (x8, .inr (8, [.ref x1, .ref x9, .ref x10, .ref x12, .ref x14, .int 0, .ref x15, .ref x16, .ref x17, .int 0, .ref x18, .ref x19, .int 0, .int 1, .int 2, .int 0])), (x10, .inr (6, [.ref x11])), (x11, .inl (ty 1, 6, .inr (.inl (fun _ => 0))))] := hD
  refine lv_aload_n hx hb dX9_compile_15 rfl (lv_at hl 1 rfl) ?_
  refine va_get (D := D) (ci := 14) (v := .ref x37) (C := RX9) (T := TX9) (N := 17) hx hb hts iv_a_X9_compile_0_X9 hown hK hP 0 rfl rfl 7 (by decide) (hts (.fieldLink RX9 28 "AnswerFold$Solver" "sureCounts" "[I") (by decide +kernel)) (fun _ h9 => h9) rfl dX9_compile_16 ?_
  refine lv_iload_n hx hb dX9_compile_19 rfl (lv_at hl 0 rfl) ?_
  refine lv_aload_n hx hb dX9_compile_20 rfl (lv_at hl 1 rfl) ?_
  refine va_get (D := D) (ci := 14) (v := .ref x8) (C := RX9) (T := TX9) (N := 17) hx hb hts iv_a_X9_compile_0_X9 hown hK hP 0 rfl rfl 1 (by decide) (hts (.fieldLink RX9 38 "AnswerFold$Solver" "grounding" "LAnswerFold$Grounding;") (by decide +kernel)) (fun _ h9 => h9) rfl dX9_compile_21 ?_
  refine va_getN (D := D) (ci := 8) (v := .ref x10) (C := RX3) (T := TX3) (N := 16) hx hb hts iv_a_X9_compile_0_X3 hown hK hP 6 rfl rfl 2 (by decide) (hE.at (.fieldLinkNest "AnswerFold$Solver" 53 "AnswerFold$Grounding" "sure" "LAnswerFold$AtomSet;" "AnswerFold") (by decide +kernel)) (fun _ h9 => h9) rfl dX9_compile_24 ?_
  refine lv_iload_n hx hb dX9_compile_27 rfl (lv_at hl 0 rfl) ?_
  refine wq_i (wc := [(x10, .inr (6, [.ref x11])), (x11, .inl (ty 1, 6, .inr (.inl (fun _ => 0))))]) (wr := [(x20, .inr (14, [.ref x1, .ref x8, .ref x21, .ref x28, .ref x35, .int 0, .ref x36, .ref x37, .ref x38, .int 0, .int 0, .int 0, .int 0, .int 0, .int 0, .int 0, .int 0])), (x21, .inr (12, [.ref x22, .ref x23, .ref x24, .ref x25, .ref x26, .ref x27, .int 0])), (x28, .inr (12, [.ref x29, .ref x30, .ref x31, .ref x32, .ref x33, .ref x34, .int 0])), (x36, .inl (ty 0, 6, .inl (fun _ => 0))), (x37, .inl (ty 0, 6, .inl (fun _ => 0))), (x1, .inr (11, [.ref x2, .int 0, .ref x3, .int 0, .ref x4, .ref x5, .int 1, .ref x6, .ref x7, .int 0])), (x8, .inr (8, [.ref x1, .ref x9, .ref x10, .ref x12, .ref x14, .int 0, .ref x15, .ref x16, .ref x17, .int 0, .ref x18, .ref x19, .int 0, .int 1, .int 2, .int 0]))]) (va_runV (As := [.int 1]) (rest := [.int 1, .ref x37]) ⟨hx, hb, hml, hown, hts⟩ (k_X1_countOf_1 l D ty td mi H.size x10 x11) (cwV 1 hts gv_a_X9_compile_0_1 rfl rfl rfl (by decide +kernel) ⟨(Nat.le_of_ble_eq_true rfl), (Nat.le_of_ble_eq_true rfl)⟩) (wq_preV hP hD hK hE hS hA [7, 8] rfl (by decide) 7 6 rfl rfl) rfl rfl hl.1 rfl (lv_room (Nat.le_of_ble_eq_true rfl)) dX9_compile_28 ⟨(Nat.le_of_ble_eq_true rfl), (Nat.le_of_ble_eq_true rfl)⟩) hS hA hP hD [7, 8] [0, 1, 2, 3, 4, 5, 6] rfl rfl (by decide) (by decide) (fun r u H locs hw hP hD hS => ?_)
  obtain ⟨rfl, rfl⟩ := hw
  have hP : va_P D vwCl [(x20, .inr (14, [.ref x1, .ref x8, .ref x21, .ref x28, .ref x35, .int 0, .ref x36, .ref x37, .ref x38, .int 0, .int 0, .int 0, .int 0, .int 0, .int 0, .int 0, .int 0])), (x21, .inr (12, [.ref x22, .ref x23, .ref x24, .ref x25, .ref x26, .ref x27, .int 0])), (x28, .inr (12, [.ref x29, .ref x30, .ref x31, .ref x32, .ref x33, .ref x34, .int 0])), (x36, .inl (ty 0, 6, .inl (fun _ => 0))), (x37, .inl (ty 0, 6, .inl (fun _ => 0))), (x1, .inr (11, [.ref x2, .int 0, .ref x3, .int 0, .ref x4, .ref x5, .int 1, .ref x6, .ref x7, .int 0])), (x8, .inr (8, [.ref x1, .ref x9, .ref x10, .ref x12, .ref x14, .int 0, .ref x15, .ref x16, .ref x17, .int 0, .ref x18, .ref x19, .int 0, .int 1, .int 2, .int 0])), (x10, .inr (6, [.ref x11])), (x11, .inl (ty 1, 6, .inr (.inl (fun _ => 0))))] H := hP
  have hD : va_D A [(x20, .inr (14, [.ref x1, .ref x8, .ref x21, .ref x28, .ref x35, .int 0, .ref x36, .ref x37, .ref x38, .int 0, .int 0, .int 0, .int 0, .int 0, .int 0, .int 0, .int 0])), (x21, .inr (12, [.ref x22, .ref x23, .ref x24, .ref x25, .ref x26, .ref x27, .int 0])), (x28, .inr (12, [.ref x29, .ref x30, .ref x31, .ref x32, .ref x33, .ref x34, .int 0])), (x36, .inl (ty 0, 6, .inl (fun _ => 0))), (x37, .inl (ty 0, 6, .inl (fun _ => 0))), (x1, .inr (11, [.ref x2, .int 0, .ref x3, .int 0, .ref x4, .ref x5, .int 1, .ref x6, .ref x7, .int 0])), (x8, .inr (8, [.ref x1, .ref x9, .ref x10, .ref x12, .ref x14, .int 0, .ref x15, .ref x16, .ref x17, .int 0, .ref x18, .ref x19, .int 0, .int 1, .int 2, .int 0])), (x10, .inr (6, [.ref x11])), (x11, .inl (ty 1, 6, .inr (.inl (fun _ => 0))))] := hD
  refine W.widen (k := 0) (n := 0) (Nat.le_of_ble_eq_true rfl) (Nat.le_of_ble_eq_true rfl) ?_
  refine va_iast (D := D) hx hb hK hP hD hS 4 0 rfl rfl (vp_in_iff.mpr (by decide)) dX9_compile_31 (fun H locs hP hD hS => ?_)
  rw [wq_upd0] at hP hD
  have hP : va_P D vwCl [(x20, .inr (14, [.ref x1, .ref x8, .ref x21, .ref x28, .ref x35, .int 0, .ref x36, .ref x37, .ref x38, .int 0, .int 0, .int 0, .int 0, .int 0, .int 0, .int 0, .int 0])), (x21, .inr (12, [.ref x22, .ref x23, .ref x24, .ref x25, .ref x26, .ref x27, .int 0])), (x28, .inr (12, [.ref x29, .ref x30, .ref x31, .ref x32, .ref x33, .ref x34, .int 0])), (x36, .inl (ty 0, 6, .inl (fun _ => 0))), (x37, .inl (ty 0, 6, .inl (fun _ => 0))), (x1, .inr (11, [.ref x2, .int 0, .ref x3, .int 0, .ref x4, .ref x5, .int 1, .ref x6, .ref x7, .int 0])), (x8, .inr (8, [.ref x1, .ref x9, .ref x10, .ref x12, .ref x14, .int 0, .ref x15, .ref x16, .ref x17, .int 0, .ref x18, .ref x19, .int 0, .int 1, .int 2, .int 0])), (x10, .inr (6, [.ref x11])), (x11, .inl (ty 1, 6, .inr (.inl (fun _ => 0))))] H := hP
  have hD : va_D A [(x20, .inr (14, [.ref x1, .ref x8, .ref x21, .ref x28, .ref x35, .int 0, .ref x36, .ref x37, .ref x38, .int 0, .int 0, .int 0, .int 0, .int 0, .int 0, .int 0, .int 0])), (x21, .inr (12, [.ref x22, .ref x23, .ref x24, .ref x25, .ref x26, .ref x27, .int 0])), (x28, .inr (12, [.ref x29, .ref x30, .ref x31, .ref x32, .ref x33, .ref x34, .int 0])), (x36, .inl (ty 0, 6, .inl (fun _ => 0))), (x37, .inl (ty 0, 6, .inl (fun _ => 0))), (x1, .inr (11, [.ref x2, .int 0, .ref x3, .int 0, .ref x4, .ref x5, .int 1, .ref x6, .ref x7, .int 0])), (x8, .inr (8, [.ref x1, .ref x9, .ref x10, .ref x12, .ref x14, .int 0, .ref x15, .ref x16, .ref x17, .int 0, .ref x18, .ref x19, .int 0, .int 1, .int 2, .int 0])), (x10, .inr (6, [.ref x11])), (x11, .inl (ty 1, 6, .inr (.inl (fun _ => 0))))] := hD
  refine lv_iinc (v := 2) (lv' := [(1, .int 2), (0, .ref x20)]) hx hb dX9_compile_32 hl (k := 0) rfl (by decide) (by decide) rfl (fun ls hl => ?_)
  refine lv_goto (tgt := 2) hx hb dX9_compile_35 (by decide) ?_
  refine lv_iload_n hx hb dX9_compile_2 rfl (lv_at hl 0 rfl) ?_
  refine lv_bipush (v := 6) hx hb dX9_compile_3 (by decide) ?_
  refine lv_icmp_ge (tgt := 38) hx hb dX9_compile_5 (by decide) (fun c0 => absurd c0 (by decide)) (fun _ => ?_)
  refine lv_aload_n hx hb dX9_compile_8 rfl (lv_at hl 1 rfl) ?_
  refine va_get (D := D) (ci := 14) (v := .ref x36) (C := RX9) (T := TX9) (N := 17) hx hb hts iv_a_X9_compile_0_X9 hown hK hP 0 rfl rfl 6 (by decide) (hts (.fieldLink RX9 25 "AnswerFold$Solver" "openBits" "[I") (by decide +kernel)) (fun _ h9 => h9) rfl dX9_compile_9 ?_
  refine lv_iload_n hx hb dX9_compile_12 rfl (lv_at hl 0 rfl) ?_
  refine lv_iconst (v := 0) hx hb dX9_compile_13 (by decide) ?_
  refine va_iast (D := D) hx hb hK hP hD hS 3 0 rfl rfl (vp_in_iff.mpr (by decide)) dX9_compile_14 (fun H locs hP hD hS => ?_)
  rw [wq_upd0] at hP hD
  have hP : va_P D vwCl [(x20, .inr (14, [.ref x1, .ref x8, .ref x21, .ref x28, .ref x35, .int 0, .ref x36, .ref x37, .ref x38, .int 0, .int 0, .int 0, .int 0, .int 0, .int 0, .int 0, .int 0])), (x21, .inr (12, [.ref x22, .ref x23, .ref x24, .ref x25, .ref x26, .ref x27, .int 0])), (x28, .inr (12, [.ref x29, .ref x30, .ref x31, .ref x32, .ref x33, .ref x34, .int 0])), (x36, .inl (ty 0, 6, .inl (fun _ => 0))), (x37, .inl (ty 0, 6, .inl (fun _ => 0))), (x1, .inr (11, [.ref x2, .int 0, .ref x3, .int 0, .ref x4, .ref x5, .int 1, .ref x6, .ref x7, .int 0])), (x8, .inr (8, [.ref x1, .ref x9, .ref x10, .ref x12, .ref x14, .int 0, .ref x15, .ref x16, .ref x17, .int 0, .ref x18, .ref x19, .int 0, .int 1, .int 2, .int 0])), (x10, .inr (6, [.ref x11])), (x11, .inl (ty 1, 6, .inr (.inl (fun _ => 0))))] H := hP
  have hD : va_D A [(x20, .inr (14, [.ref x1, .ref x8, .ref x21, .ref x28, .ref x35, .int 0, .ref x36, .ref x37, .ref x38, .int 0, .int 0, .int 0, .int 0, .int 0, .int 0, .int 0, .int 0])), (x21, .inr (12, [.ref x22, .ref x23, .ref x24, .ref x25, .ref x26, .ref x27, .int 0])), (x28, .inr (12, [.ref x29, .ref x30, .ref x31, .ref x32, .ref x33, .ref x34, .int 0])), (x36, .inl (ty 0, 6, .inl (fun _ => 0))), (x37, .inl (ty 0, 6, .inl (fun _ => 0))), (x1, .inr (11, [.ref x2, .int 0, .ref x3, .int 0, .ref x4, .ref x5, .int 1, .ref x6, .ref x7, .int 0])), (x8, .inr (8, [.ref x1, .ref x9, .ref x10, .ref x12, .ref x14, .int 0, .ref x15, .ref x16, .ref x17, .int 0, .ref x18, .ref x19, .int 0, .int 1, .int 2, .int 0])), (x10, .inr (6, [.ref x11])), (x11, .inl (ty 1, 6, .inr (.inl (fun _ => 0))))] := hD
  refine lv_aload_n hx hb dX9_compile_15 rfl (lv_at hl 1 rfl) ?_
  refine va_get (D := D) (ci := 14) (v := .ref x37) (C := RX9) (T := TX9) (N := 17) hx hb hts iv_a_X9_compile_0_X9 hown hK hP 0 rfl rfl 7 (by decide) (hts (.fieldLink RX9 28 "AnswerFold$Solver" "sureCounts" "[I") (by decide +kernel)) (fun _ h9 => h9) rfl dX9_compile_16 ?_
  refine lv_iload_n hx hb dX9_compile_19 rfl (lv_at hl 0 rfl) ?_
  refine lv_aload_n hx hb dX9_compile_20 rfl (lv_at hl 1 rfl) ?_
  refine va_get (D := D) (ci := 14) (v := .ref x8) (C := RX9) (T := TX9) (N := 17) hx hb hts iv_a_X9_compile_0_X9 hown hK hP 0 rfl rfl 1 (by decide) (hts (.fieldLink RX9 38 "AnswerFold$Solver" "grounding" "LAnswerFold$Grounding;") (by decide +kernel)) (fun _ h9 => h9) rfl dX9_compile_21 ?_
  refine va_getN (D := D) (ci := 8) (v := .ref x10) (C := RX3) (T := TX3) (N := 16) hx hb hts iv_a_X9_compile_0_X3 hown hK hP 6 rfl rfl 2 (by decide) (hE.at (.fieldLinkNest "AnswerFold$Solver" 53 "AnswerFold$Grounding" "sure" "LAnswerFold$AtomSet;" "AnswerFold") (by decide +kernel)) (fun _ h9 => h9) rfl dX9_compile_24 ?_
  refine lv_iload_n hx hb dX9_compile_27 rfl (lv_at hl 0 rfl) ?_
  refine wq_i (wc := [(x10, .inr (6, [.ref x11])), (x11, .inl (ty 1, 6, .inr (.inl (fun _ => 0))))]) (wr := [(x20, .inr (14, [.ref x1, .ref x8, .ref x21, .ref x28, .ref x35, .int 0, .ref x36, .ref x37, .ref x38, .int 0, .int 0, .int 0, .int 0, .int 0, .int 0, .int 0, .int 0])), (x21, .inr (12, [.ref x22, .ref x23, .ref x24, .ref x25, .ref x26, .ref x27, .int 0])), (x28, .inr (12, [.ref x29, .ref x30, .ref x31, .ref x32, .ref x33, .ref x34, .int 0])), (x36, .inl (ty 0, 6, .inl (fun _ => 0))), (x37, .inl (ty 0, 6, .inl (fun _ => 0))), (x1, .inr (11, [.ref x2, .int 0, .ref x3, .int 0, .ref x4, .ref x5, .int 1, .ref x6, .ref x7, .int 0])), (x8, .inr (8, [.ref x1, .ref x9, .ref x10, .ref x12, .ref x14, .int 0, .ref x15, .ref x16, .ref x17, .int 0, .ref x18, .ref x19, .int 0, .int 1, .int 2, .int 0]))]) (va_runV (As := [.int 2]) (rest := [.int 2, .ref x37]) ⟨hx, hb, hml, hown, hts⟩ (k_X1_countOf_2 l D ty td mi H.size x10 x11) (cwV 1 hts gv_a_X9_compile_0_2 rfl rfl rfl (by decide +kernel) ⟨(Nat.le_of_ble_eq_true rfl), (Nat.le_of_ble_eq_true rfl)⟩) (wq_preV hP hD hK hE hS hA [7, 8] rfl (by decide) 7 6 rfl rfl) rfl rfl hl.1 rfl (lv_room (Nat.le_of_ble_eq_true rfl)) dX9_compile_28 ⟨(Nat.le_of_ble_eq_true rfl), (Nat.le_of_ble_eq_true rfl)⟩) hS hA hP hD [7, 8] [0, 1, 2, 3, 4, 5, 6] rfl rfl (by decide) (by decide) (fun r u H locs hw hP hD hS => ?_)
  obtain ⟨rfl, rfl⟩ := hw
  have hP : va_P D vwCl [(x20, .inr (14, [.ref x1, .ref x8, .ref x21, .ref x28, .ref x35, .int 0, .ref x36, .ref x37, .ref x38, .int 0, .int 0, .int 0, .int 0, .int 0, .int 0, .int 0, .int 0])), (x21, .inr (12, [.ref x22, .ref x23, .ref x24, .ref x25, .ref x26, .ref x27, .int 0])), (x28, .inr (12, [.ref x29, .ref x30, .ref x31, .ref x32, .ref x33, .ref x34, .int 0])), (x36, .inl (ty 0, 6, .inl (fun _ => 0))), (x37, .inl (ty 0, 6, .inl (fun _ => 0))), (x1, .inr (11, [.ref x2, .int 0, .ref x3, .int 0, .ref x4, .ref x5, .int 1, .ref x6, .ref x7, .int 0])), (x8, .inr (8, [.ref x1, .ref x9, .ref x10, .ref x12, .ref x14, .int 0, .ref x15, .ref x16, .ref x17, .int 0, .ref x18, .ref x19, .int 0, .int 1, .int 2, .int 0])), (x10, .inr (6, [.ref x11])), (x11, .inl (ty 1, 6, .inr (.inl (fun _ => 0))))] H := hP
  have hD : va_D A [(x20, .inr (14, [.ref x1, .ref x8, .ref x21, .ref x28, .ref x35, .int 0, .ref x36, .ref x37, .ref x38, .int 0, .int 0, .int 0, .int 0, .int 0, .int 0, .int 0, .int 0])), (x21, .inr (12, [.ref x22, .ref x23, .ref x24, .ref x25, .ref x26, .ref x27, .int 0])), (x28, .inr (12, [.ref x29, .ref x30, .ref x31, .ref x32, .ref x33, .ref x34, .int 0])), (x36, .inl (ty 0, 6, .inl (fun _ => 0))), (x37, .inl (ty 0, 6, .inl (fun _ => 0))), (x1, .inr (11, [.ref x2, .int 0, .ref x3, .int 0, .ref x4, .ref x5, .int 1, .ref x6, .ref x7, .int 0])), (x8, .inr (8, [.ref x1, .ref x9, .ref x10, .ref x12, .ref x14, .int 0, .ref x15, .ref x16, .ref x17, .int 0, .ref x18, .ref x19, .int 0, .int 1, .int 2, .int 0])), (x10, .inr (6, [.ref x11])), (x11, .inl (ty 1, 6, .inr (.inl (fun _ => 0))))] := hD
  refine W.widen (k := 0) (n := 0) (Nat.le_of_ble_eq_true rfl) (Nat.le_of_ble_eq_true rfl) ?_
  refine va_iast (D := D) hx hb hK hP hD hS 4 0 rfl rfl (vp_in_iff.mpr (by decide)) dX9_compile_31 (fun H locs hP hD hS => ?_)
  rw [wq_upd0] at hP hD
  have hP : va_P D vwCl [(x20, .inr (14, [.ref x1, .ref x8, .ref x21, .ref x28, .ref x35, .int 0, .ref x36, .ref x37, .ref x38, .int 0, .int 0, .int 0, .int 0, .int 0, .int 0, .int 0, .int 0])), (x21, .inr (12, [.ref x22, .ref x23, .ref x24, .ref x25, .ref x26, .ref x27, .int 0])), (x28, .inr (12, [.ref x29, .ref x30, .ref x31, .ref x32, .ref x33, .ref x34, .int 0])), (x36, .inl (ty 0, 6, .inl (fun _ => 0))), (x37, .inl (ty 0, 6, .inl (fun _ => 0))), (x1, .inr (11, [.ref x2, .int 0, .ref x3, .int 0, .ref x4, .ref x5, .int 1, .ref x6, .ref x7, .int 0])), (x8, .inr (8, [.ref x1, .ref x9, .ref x10, .ref x12, .ref x14, .int 0, .ref x15, .ref x16, .ref x17, .int 0, .ref x18, .ref x19, .int 0, .int 1, .int 2, .int 0])), (x10, .inr (6, [.ref x11])), (x11, .inl (ty 1, 6, .inr (.inl (fun _ => 0))))] H := hP
  have hD : va_D A [(x20, .inr (14, [.ref x1, .ref x8, .ref x21, .ref x28, .ref x35, .int 0, .ref x36, .ref x37, .ref x38, .int 0, .int 0, .int 0, .int 0, .int 0, .int 0, .int 0, .int 0])), (x21, .inr (12, [.ref x22, .ref x23, .ref x24, .ref x25, .ref x26, .ref x27, .int 0])), (x28, .inr (12, [.ref x29, .ref x30, .ref x31, .ref x32, .ref x33, .ref x34, .int 0])), (x36, .inl (ty 0, 6, .inl (fun _ => 0))), (x37, .inl (ty 0, 6, .inl (fun _ => 0))), (x1, .inr (11, [.ref x2, .int 0, .ref x3, .int 0, .ref x4, .ref x5, .int 1, .ref x6, .ref x7, .int 0])), (x8, .inr (8, [.ref x1, .ref x9, .ref x10, .ref x12, .ref x14, .int 0, .ref x15, .ref x16, .ref x17, .int 0, .ref x18, .ref x19, .int 0, .int 1, .int 2, .int 0])), (x10, .inr (6, [.ref x11])), (x11, .inl (ty 1, 6, .inr (.inl (fun _ => 0))))] := hD
  refine lv_iinc (v := 3) (lv' := [(1, .int 3), (0, .ref x20)]) hx hb dX9_compile_32 hl (k := 0) rfl (by decide) (by decide) rfl (fun ls hl => ?_)
  refine lv_goto (tgt := 2) hx hb dX9_compile_35 (by decide) ?_
  refine lv_iload_n hx hb dX9_compile_2 rfl (lv_at hl 0 rfl) ?_
  refine lv_bipush (v := 6) hx hb dX9_compile_3 (by decide) ?_
  refine lv_icmp_ge (tgt := 38) hx hb dX9_compile_5 (by decide) (fun c0 => absurd c0 (by decide)) (fun _ => ?_)
  refine lv_aload_n hx hb dX9_compile_8 rfl (lv_at hl 1 rfl) ?_
  refine va_get (D := D) (ci := 14) (v := .ref x36) (C := RX9) (T := TX9) (N := 17) hx hb hts iv_a_X9_compile_0_X9 hown hK hP 0 rfl rfl 6 (by decide) (hts (.fieldLink RX9 25 "AnswerFold$Solver" "openBits" "[I") (by decide +kernel)) (fun _ h9 => h9) rfl dX9_compile_9 ?_
  refine lv_iload_n hx hb dX9_compile_12 rfl (lv_at hl 0 rfl) ?_
  refine lv_iconst (v := 0) hx hb dX9_compile_13 (by decide) ?_
  refine va_iast (D := D) hx hb hK hP hD hS 3 0 rfl rfl (vp_in_iff.mpr (by decide)) dX9_compile_14 (fun H locs hP hD hS => ?_)
  rw [wq_upd0] at hP hD
  have hP : va_P D vwCl [(x20, .inr (14, [.ref x1, .ref x8, .ref x21, .ref x28, .ref x35, .int 0, .ref x36, .ref x37, .ref x38, .int 0, .int 0, .int 0, .int 0, .int 0, .int 0, .int 0, .int 0])), (x21, .inr (12, [.ref x22, .ref x23, .ref x24, .ref x25, .ref x26, .ref x27, .int 0])), (x28, .inr (12, [.ref x29, .ref x30, .ref x31, .ref x32, .ref x33, .ref x34, .int 0])), (x36, .inl (ty 0, 6, .inl (fun _ => 0))), (x37, .inl (ty 0, 6, .inl (fun _ => 0))), (x1, .inr (11, [.ref x2, .int 0, .ref x3, .int 0, .ref x4, .ref x5, .int 1, .ref x6, .ref x7, .int 0])), (x8, .inr (8, [.ref x1, .ref x9, .ref x10, .ref x12, .ref x14, .int 0, .ref x15, .ref x16, .ref x17, .int 0, .ref x18, .ref x19, .int 0, .int 1, .int 2, .int 0])), (x10, .inr (6, [.ref x11])), (x11, .inl (ty 1, 6, .inr (.inl (fun _ => 0))))] H := hP
  have hD : va_D A [(x20, .inr (14, [.ref x1, .ref x8, .ref x21, .ref x28, .ref x35, .int 0, .ref x36, .ref x37, .ref x38, .int 0, .int 0, .int 0, .int 0, .int 0, .int 0, .int 0, .int 0])), (x21, .inr (12, [.ref x22, .ref x23, .ref x24, .ref x25, .ref x26, .ref x27, .int 0])), (x28, .inr (12, [.ref x29, .ref x30, .ref x31, .ref x32, .ref x33, .ref x34, .int 0])), (x36, .inl (ty 0, 6, .inl (fun _ => 0))), (x37, .inl (ty 0, 6, .inl (fun _ => 0))), (x1, .inr (11, [.ref x2, .int 0, .ref x3, .int 0, .ref x4, .ref x5, .int 1, .ref x6, .ref x7, .int 0])), (x8, .inr (8, [.ref x1, .ref x9, .ref x10, .ref x12, .ref x14, .int 0, .ref x15, .ref x16, .ref x17, .int 0, .ref x18, .ref x19, .int 0, .int 1, .int 2, .int 0])), (x10, .inr (6, [.ref x11])), (x11, .inl (ty 1, 6, .inr (.inl (fun _ => 0))))] := hD
  refine lv_aload_n hx hb dX9_compile_15 rfl (lv_at hl 1 rfl) ?_
  refine va_get (D := D) (ci := 14) (v := .ref x37) (C := RX9) (T := TX9) (N := 17) hx hb hts iv_a_X9_compile_0_X9 hown hK hP 0 rfl rfl 7 (by decide) (hts (.fieldLink RX9 28 "AnswerFold$Solver" "sureCounts" "[I") (by decide +kernel)) (fun _ h9 => h9) rfl dX9_compile_16 ?_
  refine lv_iload_n hx hb dX9_compile_19 rfl (lv_at hl 0 rfl) ?_
  refine lv_aload_n hx hb dX9_compile_20 rfl (lv_at hl 1 rfl) ?_
  refine va_get (D := D) (ci := 14) (v := .ref x8) (C := RX9) (T := TX9) (N := 17) hx hb hts iv_a_X9_compile_0_X9 hown hK hP 0 rfl rfl 1 (by decide) (hts (.fieldLink RX9 38 "AnswerFold$Solver" "grounding" "LAnswerFold$Grounding;") (by decide +kernel)) (fun _ h9 => h9) rfl dX9_compile_21 ?_
  refine va_getN (D := D) (ci := 8) (v := .ref x10) (C := RX3) (T := TX3) (N := 16) hx hb hts iv_a_X9_compile_0_X3 hown hK hP 6 rfl rfl 2 (by decide) (hE.at (.fieldLinkNest "AnswerFold$Solver" 53 "AnswerFold$Grounding" "sure" "LAnswerFold$AtomSet;" "AnswerFold") (by decide +kernel)) (fun _ h9 => h9) rfl dX9_compile_24 ?_
  refine lv_iload_n hx hb dX9_compile_27 rfl (lv_at hl 0 rfl) ?_
  refine wq_i (wc := [(x10, .inr (6, [.ref x11])), (x11, .inl (ty 1, 6, .inr (.inl (fun _ => 0))))]) (wr := [(x20, .inr (14, [.ref x1, .ref x8, .ref x21, .ref x28, .ref x35, .int 0, .ref x36, .ref x37, .ref x38, .int 0, .int 0, .int 0, .int 0, .int 0, .int 0, .int 0, .int 0])), (x21, .inr (12, [.ref x22, .ref x23, .ref x24, .ref x25, .ref x26, .ref x27, .int 0])), (x28, .inr (12, [.ref x29, .ref x30, .ref x31, .ref x32, .ref x33, .ref x34, .int 0])), (x36, .inl (ty 0, 6, .inl (fun _ => 0))), (x37, .inl (ty 0, 6, .inl (fun _ => 0))), (x1, .inr (11, [.ref x2, .int 0, .ref x3, .int 0, .ref x4, .ref x5, .int 1, .ref x6, .ref x7, .int 0])), (x8, .inr (8, [.ref x1, .ref x9, .ref x10, .ref x12, .ref x14, .int 0, .ref x15, .ref x16, .ref x17, .int 0, .ref x18, .ref x19, .int 0, .int 1, .int 2, .int 0]))]) (va_runV (As := [.int 3]) (rest := [.int 3, .ref x37]) ⟨hx, hb, hml, hown, hts⟩ (k_X1_countOf_3 l D ty td mi H.size x10 x11) (cwV 1 hts gv_a_X9_compile_0_3 rfl rfl rfl (by decide +kernel) ⟨(Nat.le_of_ble_eq_true rfl), (Nat.le_of_ble_eq_true rfl)⟩) (wq_preV hP hD hK hE hS hA [7, 8] rfl (by decide) 7 6 rfl rfl) rfl rfl hl.1 rfl (lv_room (Nat.le_of_ble_eq_true rfl)) dX9_compile_28 ⟨(Nat.le_of_ble_eq_true rfl), (Nat.le_of_ble_eq_true rfl)⟩) hS hA hP hD [7, 8] [0, 1, 2, 3, 4, 5, 6] rfl rfl (by decide) (by decide) (fun r u H locs hw hP hD hS => ?_)
  obtain ⟨rfl, rfl⟩ := hw
  have hP : va_P D vwCl [(x20, .inr (14, [.ref x1, .ref x8, .ref x21, .ref x28, .ref x35, .int 0, .ref x36, .ref x37, .ref x38, .int 0, .int 0, .int 0, .int 0, .int 0, .int 0, .int 0, .int 0])), (x21, .inr (12, [.ref x22, .ref x23, .ref x24, .ref x25, .ref x26, .ref x27, .int 0])), (x28, .inr (12, [.ref x29, .ref x30, .ref x31, .ref x32, .ref x33, .ref x34, .int 0])), (x36, .inl (ty 0, 6, .inl (fun _ => 0))), (x37, .inl (ty 0, 6, .inl (fun _ => 0))), (x1, .inr (11, [.ref x2, .int 0, .ref x3, .int 0, .ref x4, .ref x5, .int 1, .ref x6, .ref x7, .int 0])), (x8, .inr (8, [.ref x1, .ref x9, .ref x10, .ref x12, .ref x14, .int 0, .ref x15, .ref x16, .ref x17, .int 0, .ref x18, .ref x19, .int 0, .int 1, .int 2, .int 0])), (x10, .inr (6, [.ref x11])), (x11, .inl (ty 1, 6, .inr (.inl (fun _ => 0))))] H := hP
  have hD : va_D A [(x20, .inr (14, [.ref x1, .ref x8, .ref x21, .ref x28, .ref x35, .int 0, .ref x36, .ref x37, .ref x38, .int 0, .int 0, .int 0, .int 0, .int 0, .int 0, .int 0, .int 0])), (x21, .inr (12, [.ref x22, .ref x23, .ref x24, .ref x25, .ref x26, .ref x27, .int 0])), (x28, .inr (12, [.ref x29, .ref x30, .ref x31, .ref x32, .ref x33, .ref x34, .int 0])), (x36, .inl (ty 0, 6, .inl (fun _ => 0))), (x37, .inl (ty 0, 6, .inl (fun _ => 0))), (x1, .inr (11, [.ref x2, .int 0, .ref x3, .int 0, .ref x4, .ref x5, .int 1, .ref x6, .ref x7, .int 0])), (x8, .inr (8, [.ref x1, .ref x9, .ref x10, .ref x12, .ref x14, .int 0, .ref x15, .ref x16, .ref x17, .int 0, .ref x18, .ref x19, .int 0, .int 1, .int 2, .int 0])), (x10, .inr (6, [.ref x11])), (x11, .inl (ty 1, 6, .inr (.inl (fun _ => 0))))] := hD
  refine W.widen (k := 0) (n := 0) (Nat.le_of_ble_eq_true rfl) (Nat.le_of_ble_eq_true rfl) ?_
  refine va_iast (D := D) hx hb hK hP hD hS 4 0 rfl rfl (vp_in_iff.mpr (by decide)) dX9_compile_31 (fun H locs hP hD hS => ?_)
  rw [wq_upd0] at hP hD
  have hP : va_P D vwCl [(x20, .inr (14, [.ref x1, .ref x8, .ref x21, .ref x28, .ref x35, .int 0, .ref x36, .ref x37, .ref x38, .int 0, .int 0, .int 0, .int 0, .int 0, .int 0, .int 0, .int 0])), (x21, .inr (12, [.ref x22, .ref x23, .ref x24, .ref x25, .ref x26, .ref x27, .int 0])), (x28, .inr (12, [.ref x29, .ref x30, .ref x31, .ref x32, .ref x33, .ref x34, .int 0])), (x36, .inl (ty 0, 6, .inl (fun _ => 0))), (x37, .inl (ty 0, 6, .inl (fun _ => 0))), (x1, .inr (11, [.ref x2, .int 0, .ref x3, .int 0, .ref x4, .ref x5, .int 1, .ref x6, .ref x7, .int 0])), (x8, .inr (8, [.ref x1, .ref x9, .ref x10, .ref x12, .ref x14, .int 0, .ref x15, .ref x16, .ref x17, .int 0, .ref x18, .ref x19, .int 0, .int 1, .int 2, .int 0])), (x10, .inr (6, [.ref x11])), (x11, .inl (ty 1, 6, .inr (.inl (fun _ => 0))))] H := hP
  have hD : va_D A [(x20, .inr (14, [.ref x1, .ref x8, .ref x21, .ref x28, .ref x35, .int 0, .ref x36, .ref x37, .ref x38, .int 0, .int 0, .int 0, .int 0, .int 0, .int 0, .int 0, .int 0])), (x21, .inr (12, [.ref x22, .ref x23, .ref x24, .ref x25, .ref x26, .ref x27, .int 0])), (x28, .inr (12, [.ref x29, .ref x30, .ref x31, .ref x32, .ref x33, .ref x34, .int 0])), (x36, .inl (ty 0, 6, .inl (fun _ => 0))), (x37, .inl (ty 0, 6, .inl (fun _ => 0))), (x1, .inr (11, [.ref x2, .int 0, .ref x3, .int 0, .ref x4, .ref x5, .int 1, .ref x6, .ref x7, .int 0])), (x8, .inr (8, [.ref x1, .ref x9, .ref x10, .ref x12, .ref x14, .int 0, .ref x15, .ref x16, .ref x17, .int 0, .ref x18, .ref x19, .int 0, .int 1, .int 2, .int 0])), (x10, .inr (6, [.ref x11])), (x11, .inl (ty 1, 6, .inr (.inl (fun _ => 0))))] := hD
  refine lv_iinc (v := 4) (lv' := [(1, .int 4), (0, .ref x20)]) hx hb dX9_compile_32 hl (k := 0) rfl (by decide) (by decide) rfl (fun ls hl => ?_)
  refine lv_goto (tgt := 2) hx hb dX9_compile_35 (by decide) ?_
  refine lv_iload_n hx hb dX9_compile_2 rfl (lv_at hl 0 rfl) ?_
  refine lv_bipush (v := 6) hx hb dX9_compile_3 (by decide) ?_
  refine lv_icmp_ge (tgt := 38) hx hb dX9_compile_5 (by decide) (fun c0 => absurd c0 (by decide)) (fun _ => ?_)
  refine lv_aload_n hx hb dX9_compile_8 rfl (lv_at hl 1 rfl) ?_
  refine va_get (D := D) (ci := 14) (v := .ref x36) (C := RX9) (T := TX9) (N := 17) hx hb hts iv_a_X9_compile_0_X9 hown hK hP 0 rfl rfl 6 (by decide) (hts (.fieldLink RX9 25 "AnswerFold$Solver" "openBits" "[I") (by decide +kernel)) (fun _ h9 => h9) rfl dX9_compile_9 ?_
  refine lv_iload_n hx hb dX9_compile_12 rfl (lv_at hl 0 rfl) ?_
  refine lv_iconst (v := 0) hx hb dX9_compile_13 (by decide) ?_
  refine va_iast (D := D) hx hb hK hP hD hS 3 0 rfl rfl (vp_in_iff.mpr (by decide)) dX9_compile_14 (fun H locs hP hD hS => ?_)
  rw [wq_upd0] at hP hD
  have hP : va_P D vwCl [(x20, .inr (14, [.ref x1, .ref x8, .ref x21, .ref x28, .ref x35, .int 0, .ref x36, .ref x37, .ref x38, .int 0, .int 0, .int 0, .int 0, .int 0, .int 0, .int 0, .int 0])), (x21, .inr (12, [.ref x22, .ref x23, .ref x24, .ref x25, .ref x26, .ref x27, .int 0])), (x28, .inr (12, [.ref x29, .ref x30, .ref x31, .ref x32, .ref x33, .ref x34, .int 0])), (x36, .inl (ty 0, 6, .inl (fun _ => 0))), (x37, .inl (ty 0, 6, .inl (fun _ => 0))), (x1, .inr (11, [.ref x2, .int 0, .ref x3, .int 0, .ref x4, .ref x5, .int 1, .ref x6, .ref x7, .int 0])), (x8, .inr (8, [.ref x1, .ref x9, .ref x10, .ref x12, .ref x14, .int 0, .ref x15, .ref x16, .ref x17, .int 0, .ref x18, .ref x19, .int 0, .int 1, .int 2, .int 0])), (x10, .inr (6, [.ref x11])), (x11, .inl (ty 1, 6, .inr (.inl (fun _ => 0))))] H := hP
  have hD : va_D A [(x20, .inr (14, [.ref x1, .ref x8, .ref x21, .ref x28, .ref x35, .int 0, .ref x36, .ref x37, .ref x38, .int 0, .int 0, .int 0, .int 0, .int 0, .int 0, .int 0, .int 0])), (x21, .inr (12, [.ref x22, .ref x23, .ref x24, .ref x25, .ref x26, .ref x27, .int 0])), (x28, .inr (12, [.ref x29, .ref x30, .ref x31, .ref x32, .ref x33, .ref x34, .int 0])), (x36, .inl (ty 0, 6, .inl (fun _ => 0))), (x37, .inl (ty 0, 6, .inl (fun _ => 0))), (x1, .inr (11, [.ref x2, .int 0, .ref x3, .int 0, .ref x4, .ref x5, .int 1, .ref x6, .ref x7, .int 0])), (x8, .inr (8, [.ref x1, .ref x9, .ref x10, .ref x12, .ref x14, .int 0, .ref x15, .ref x16, .ref x17, .int 0, .ref x18, .ref x19, .int 0, .int 1, .int 2, .int 0])), (x10, .inr (6, [.ref x11])), (x11, .inl (ty 1, 6, .inr (.inl (fun _ => 0))))] := hD
  refine lv_aload_n hx hb dX9_compile_15 rfl (lv_at hl 1 rfl) ?_
  refine va_get (D := D) (ci := 14) (v := .ref x37) (C := RX9) (T := TX9) (N := 17) hx hb hts iv_a_X9_compile_0_X9 hown hK hP 0 rfl rfl 7 (by decide) (hts (.fieldLink RX9 28 "AnswerFold$Solver" "sureCounts" "[I") (by decide +kernel)) (fun _ h9 => h9) rfl dX9_compile_16 ?_
  refine lv_iload_n hx hb dX9_compile_19 rfl (lv_at hl 0 rfl) ?_
  refine lv_aload_n hx hb dX9_compile_20 rfl (lv_at hl 1 rfl) ?_
  refine va_get (D := D) (ci := 14) (v := .ref x8) (C := RX9) (T := TX9) (N := 17) hx hb hts iv_a_X9_compile_0_X9 hown hK hP 0 rfl rfl 1 (by decide) (hts (.fieldLink RX9 38 "AnswerFold$Solver" "grounding" "LAnswerFold$Grounding;") (by decide +kernel)) (fun _ h9 => h9) rfl dX9_compile_21 ?_
  refine va_getN (D := D) (ci := 8) (v := .ref x10) (C := RX3) (T := TX3) (N := 16) hx hb hts iv_a_X9_compile_0_X3 hown hK hP 6 rfl rfl 2 (by decide) (hE.at (.fieldLinkNest "AnswerFold$Solver" 53 "AnswerFold$Grounding" "sure" "LAnswerFold$AtomSet;" "AnswerFold") (by decide +kernel)) (fun _ h9 => h9) rfl dX9_compile_24 ?_
  refine lv_iload_n hx hb dX9_compile_27 rfl (lv_at hl 0 rfl) ?_
  refine wq_i (wc := [(x10, .inr (6, [.ref x11])), (x11, .inl (ty 1, 6, .inr (.inl (fun _ => 0))))]) (wr := [(x20, .inr (14, [.ref x1, .ref x8, .ref x21, .ref x28, .ref x35, .int 0, .ref x36, .ref x37, .ref x38, .int 0, .int 0, .int 0, .int 0, .int 0, .int 0, .int 0, .int 0])), (x21, .inr (12, [.ref x22, .ref x23, .ref x24, .ref x25, .ref x26, .ref x27, .int 0])), (x28, .inr (12, [.ref x29, .ref x30, .ref x31, .ref x32, .ref x33, .ref x34, .int 0])), (x36, .inl (ty 0, 6, .inl (fun _ => 0))), (x37, .inl (ty 0, 6, .inl (fun _ => 0))), (x1, .inr (11, [.ref x2, .int 0, .ref x3, .int 0, .ref x4, .ref x5, .int 1, .ref x6, .ref x7, .int 0])), (x8, .inr (8, [.ref x1, .ref x9, .ref x10, .ref x12, .ref x14, .int 0, .ref x15, .ref x16, .ref x17, .int 0, .ref x18, .ref x19, .int 0, .int 1, .int 2, .int 0]))]) (va_runV (As := [.int 4]) (rest := [.int 4, .ref x37]) ⟨hx, hb, hml, hown, hts⟩ (k_X1_countOf_4 l D ty td mi H.size x10 x11) (cwV 1 hts gv_a_X9_compile_0_4 rfl rfl rfl (by decide +kernel) ⟨(Nat.le_of_ble_eq_true rfl), (Nat.le_of_ble_eq_true rfl)⟩) (wq_preV hP hD hK hE hS hA [7, 8] rfl (by decide) 7 6 rfl rfl) rfl rfl hl.1 rfl (lv_room (Nat.le_of_ble_eq_true rfl)) dX9_compile_28 ⟨(Nat.le_of_ble_eq_true rfl), (Nat.le_of_ble_eq_true rfl)⟩) hS hA hP hD [7, 8] [0, 1, 2, 3, 4, 5, 6] rfl rfl (by decide) (by decide) (fun r u H locs hw hP hD hS => ?_)
  obtain ⟨rfl, rfl⟩ := hw
  have hP : va_P D vwCl [(x20, .inr (14, [.ref x1, .ref x8, .ref x21, .ref x28, .ref x35, .int 0, .ref x36, .ref x37, .ref x38, .int 0, .int 0, .int 0, .int 0, .int 0, .int 0, .int 0, .int 0])), (x21, .inr (12, [.ref x22, .ref x23, .ref x24, .ref x25, .ref x26, .ref x27, .int 0])), (x28, .inr (12, [.ref x29, .ref x30, .ref x31, .ref x32, .ref x33, .ref x34, .int 0])), (x36, .inl (ty 0, 6, .inl (fun _ => 0))), (x37, .inl (ty 0, 6, .inl (fun _ => 0))), (x1, .inr (11, [.ref x2, .int 0, .ref x3, .int 0, .ref x4, .ref x5, .int 1, .ref x6, .ref x7, .int 0])), (x8, .inr (8, [.ref x1, .ref x9, .ref x10, .ref x12, .ref x14, .int 0, .ref x15, .ref x16, .ref x17, .int 0, .ref x18, .ref x19, .int 0, .int 1, .int 2, .int 0])), (x10, .inr (6, [.ref x11])), (x11, .inl (ty 1, 6, .inr (.inl (fun _ => 0))))] H := hP
  have hD : va_D A [(x20, .inr (14, [.ref x1, .ref x8, .ref x21, .ref x28, .ref x35, .int 0, .ref x36, .ref x37, .ref x38, .int 0, .int 0, .int 0, .int 0, .int 0, .int 0, .int 0, .int 0])), (x21, .inr (12, [.ref x22, .ref x23, .ref x24, .ref x25, .ref x26, .ref x27, .int 0])), (x28, .inr (12, [.ref x29, .ref x30, .ref x31, .ref x32, .ref x33, .ref x34, .int 0])), (x36, .inl (ty 0, 6, .inl (fun _ => 0))), (x37, .inl (ty 0, 6, .inl (fun _ => 0))), (x1, .inr (11, [.ref x2, .int 0, .ref x3, .int 0, .ref x4, .ref x5, .int 1, .ref x6, .ref x7, .int 0])), (x8, .inr (8, [.ref x1, .ref x9, .ref x10, .ref x12, .ref x14, .int 0, .ref x15, .ref x16, .ref x17, .int 0, .ref x18, .ref x19, .int 0, .int 1, .int 2, .int 0])), (x10, .inr (6, [.ref x11])), (x11, .inl (ty 1, 6, .inr (.inl (fun _ => 0))))] := hD
  refine W.widen (k := 0) (n := 0) (Nat.le_of_ble_eq_true rfl) (Nat.le_of_ble_eq_true rfl) ?_
  refine va_iast (D := D) hx hb hK hP hD hS 4 0 rfl rfl (vp_in_iff.mpr (by decide)) dX9_compile_31 (fun H locs hP hD hS => ?_)
  rw [wq_upd0] at hP hD
  have hP : va_P D vwCl [(x20, .inr (14, [.ref x1, .ref x8, .ref x21, .ref x28, .ref x35, .int 0, .ref x36, .ref x37, .ref x38, .int 0, .int 0, .int 0, .int 0, .int 0, .int 0, .int 0, .int 0])), (x21, .inr (12, [.ref x22, .ref x23, .ref x24, .ref x25, .ref x26, .ref x27, .int 0])), (x28, .inr (12, [.ref x29, .ref x30, .ref x31, .ref x32, .ref x33, .ref x34, .int 0])), (x36, .inl (ty 0, 6, .inl (fun _ => 0))), (x37, .inl (ty 0, 6, .inl (fun _ => 0))), (x1, .inr (11, [.ref x2, .int 0, .ref x3, .int 0, .ref x4, .ref x5, .int 1, .ref x6, .ref x7, .int 0])), (x8, .inr (8, [.ref x1, .ref x9, .ref x10, .ref x12, .ref x14, .int 0, .ref x15, .ref x16, .ref x17, .int 0, .ref x18, .ref x19, .int 0, .int 1, .int 2, .int 0])), (x10, .inr (6, [.ref x11])), (x11, .inl (ty 1, 6, .inr (.inl (fun _ => 0))))] H := hP
  have hD : va_D A [(x20, .inr (14, [.ref x1, .ref x8, .ref x21, .ref x28, .ref x35, .int 0, .ref x36, .ref x37, .ref x38, .int 0, .int 0, .int 0, .int 0, .int 0, .int 0, .int 0, .int 0])), (x21, .inr (12, [.ref x22, .ref x23, .ref x24, .ref x25, .ref x26, .ref x27, .int 0])), (x28, .inr (12, [.ref x29, .ref x30, .ref x31, .ref x32, .ref x33, .ref x34, .int 0])), (x36, .inl (ty 0, 6, .inl (fun _ => 0))), (x37, .inl (ty 0, 6, .inl (fun _ => 0))), (x1, .inr (11, [.ref x2, .int 0, .ref x3, .int 0, .ref x4, .ref x5, .int 1, .ref x6, .ref x7, .int 0])), (x8, .inr (8, [.ref x1, .ref x9, .ref x10, .ref x12, .ref x14, .int 0, .ref x15, .ref x16, .ref x17, .int 0, .ref x18, .ref x19, .int 0, .int 1, .int 2, .int 0])), (x10, .inr (6, [.ref x11])), (x11, .inl (ty 1, 6, .inr (.inl (fun _ => 0))))] := hD
  refine lv_iinc (v := 5) (lv' := [(1, .int 5), (0, .ref x20)]) hx hb dX9_compile_32 hl (k := 0) rfl (by decide) (by decide) rfl (fun ls hl => ?_)
  refine lv_goto (tgt := 2) hx hb dX9_compile_35 (by decide) ?_
  refine lv_iload_n hx hb dX9_compile_2 rfl (lv_at hl 0 rfl) ?_
  refine lv_bipush (v := 6) hx hb dX9_compile_3 (by decide) ?_
  refine lv_icmp_ge (tgt := 38) hx hb dX9_compile_5 (by decide) (fun c0 => absurd c0 (by decide)) (fun _ => ?_)
  refine lv_aload_n hx hb dX9_compile_8 rfl (lv_at hl 1 rfl) ?_
  refine va_get (D := D) (ci := 14) (v := .ref x36) (C := RX9) (T := TX9) (N := 17) hx hb hts iv_a_X9_compile_0_X9 hown hK hP 0 rfl rfl 6 (by decide) (hts (.fieldLink RX9 25 "AnswerFold$Solver" "openBits" "[I") (by decide +kernel)) (fun _ h9 => h9) rfl dX9_compile_9 ?_
  refine lv_iload_n hx hb dX9_compile_12 rfl (lv_at hl 0 rfl) ?_
  refine lv_iconst (v := 0) hx hb dX9_compile_13 (by decide) ?_
  refine va_iast (D := D) hx hb hK hP hD hS 3 0 rfl rfl (vp_in_iff.mpr (by decide)) dX9_compile_14 (fun H locs hP hD hS => ?_)
  rw [wq_upd0] at hP hD
  have hP : va_P D vwCl [(x20, .inr (14, [.ref x1, .ref x8, .ref x21, .ref x28, .ref x35, .int 0, .ref x36, .ref x37, .ref x38, .int 0, .int 0, .int 0, .int 0, .int 0, .int 0, .int 0, .int 0])), (x21, .inr (12, [.ref x22, .ref x23, .ref x24, .ref x25, .ref x26, .ref x27, .int 0])), (x28, .inr (12, [.ref x29, .ref x30, .ref x31, .ref x32, .ref x33, .ref x34, .int 0])), (x36, .inl (ty 0, 6, .inl (fun _ => 0))), (x37, .inl (ty 0, 6, .inl (fun _ => 0))), (x1, .inr (11, [.ref x2, .int 0, .ref x3, .int 0, .ref x4, .ref x5, .int 1, .ref x6, .ref x7, .int 0])), (x8, .inr (8, [.ref x1, .ref x9, .ref x10, .ref x12, .ref x14, .int 0, .ref x15, .ref x16, .ref x17, .int 0, .ref x18, .ref x19, .int 0, .int 1, .int 2, .int 0])), (x10, .inr (6, [.ref x11])), (x11, .inl (ty 1, 6, .inr (.inl (fun _ => 0))))] H := hP
  have hD : va_D A [(x20, .inr (14, [.ref x1, .ref x8, .ref x21, .ref x28, .ref x35, .int 0, .ref x36, .ref x37, .ref x38, .int 0, .int 0, .int 0, .int 0, .int 0, .int 0, .int 0, .int 0])), (x21, .inr (12, [.ref x22, .ref x23, .ref x24, .ref x25, .ref x26, .ref x27, .int 0])), (x28, .inr (12, [.ref x29, .ref x30, .ref x31, .ref x32, .ref x33, .ref x34, .int 0])), (x36, .inl (ty 0, 6, .inl (fun _ => 0))), (x37, .inl (ty 0, 6, .inl (fun _ => 0))), (x1, .inr (11, [.ref x2, .int 0, .ref x3, .int 0, .ref x4, .ref x5, .int 1, .ref x6, .ref x7, .int 0])), (x8, .inr (8, [.ref x1, .ref x9, .ref x10, .ref x12, .ref x14, .int 0, .ref x15, .ref x16, .ref x17, .int 0, .ref x18, .ref x19, .int 0, .int 1, .int 2, .int 0])), (x10, .inr (6, [.ref x11])), (x11, .inl (ty 1, 6, .inr (.inl (fun _ => 0))))] := hD
  refine lv_aload_n hx hb dX9_compile_15 rfl (lv_at hl 1 rfl) ?_
  refine va_get (D := D) (ci := 14) (v := .ref x37) (C := RX9) (T := TX9) (N := 17) hx hb hts iv_a_X9_compile_0_X9 hown hK hP 0 rfl rfl 7 (by decide) (hts (.fieldLink RX9 28 "AnswerFold$Solver" "sureCounts" "[I") (by decide +kernel)) (fun _ h9 => h9) rfl dX9_compile_16 ?_
  refine lv_iload_n hx hb dX9_compile_19 rfl (lv_at hl 0 rfl) ?_
  refine lv_aload_n hx hb dX9_compile_20 rfl (lv_at hl 1 rfl) ?_
  refine va_get (D := D) (ci := 14) (v := .ref x8) (C := RX9) (T := TX9) (N := 17) hx hb hts iv_a_X9_compile_0_X9 hown hK hP 0 rfl rfl 1 (by decide) (hts (.fieldLink RX9 38 "AnswerFold$Solver" "grounding" "LAnswerFold$Grounding;") (by decide +kernel)) (fun _ h9 => h9) rfl dX9_compile_21 ?_
  refine va_getN (D := D) (ci := 8) (v := .ref x10) (C := RX3) (T := TX3) (N := 16) hx hb hts iv_a_X9_compile_0_X3 hown hK hP 6 rfl rfl 2 (by decide) (hE.at (.fieldLinkNest "AnswerFold$Solver" 53 "AnswerFold$Grounding" "sure" "LAnswerFold$AtomSet;" "AnswerFold") (by decide +kernel)) (fun _ h9 => h9) rfl dX9_compile_24 ?_
  refine lv_iload_n hx hb dX9_compile_27 rfl (lv_at hl 0 rfl) ?_
  refine wq_i (wc := [(x10, .inr (6, [.ref x11])), (x11, .inl (ty 1, 6, .inr (.inl (fun _ => 0))))]) (wr := [(x20, .inr (14, [.ref x1, .ref x8, .ref x21, .ref x28, .ref x35, .int 0, .ref x36, .ref x37, .ref x38, .int 0, .int 0, .int 0, .int 0, .int 0, .int 0, .int 0, .int 0])), (x21, .inr (12, [.ref x22, .ref x23, .ref x24, .ref x25, .ref x26, .ref x27, .int 0])), (x28, .inr (12, [.ref x29, .ref x30, .ref x31, .ref x32, .ref x33, .ref x34, .int 0])), (x36, .inl (ty 0, 6, .inl (fun _ => 0))), (x37, .inl (ty 0, 6, .inl (fun _ => 0))), (x1, .inr (11, [.ref x2, .int 0, .ref x3, .int 0, .ref x4, .ref x5, .int 1, .ref x6, .ref x7, .int 0])), (x8, .inr (8, [.ref x1, .ref x9, .ref x10, .ref x12, .ref x14, .int 0, .ref x15, .ref x16, .ref x17, .int 0, .ref x18, .ref x19, .int 0, .int 1, .int 2, .int 0]))]) (va_runV (As := [.int 5]) (rest := [.int 5, .ref x37]) ⟨hx, hb, hml, hown, hts⟩ (k_X1_countOf_5 l D ty td mi H.size x10 x11) (cwV 1 hts gv_a_X9_compile_0_5 rfl rfl rfl (by decide +kernel) ⟨(Nat.le_of_ble_eq_true rfl), (Nat.le_of_ble_eq_true rfl)⟩) (wq_preV hP hD hK hE hS hA [7, 8] rfl (by decide) 7 6 rfl rfl) rfl rfl hl.1 rfl (lv_room (Nat.le_of_ble_eq_true rfl)) dX9_compile_28 ⟨(Nat.le_of_ble_eq_true rfl), (Nat.le_of_ble_eq_true rfl)⟩) hS hA hP hD [7, 8] [0, 1, 2, 3, 4, 5, 6] rfl rfl (by decide) (by decide) (fun r u H locs hw hP hD hS => ?_)
  obtain ⟨rfl, rfl⟩ := hw
  have hP : va_P D vwCl [(x20, .inr (14, [.ref x1, .ref x8, .ref x21, .ref x28, .ref x35, .int 0, .ref x36, .ref x37, .ref x38, .int 0, .int 0, .int 0, .int 0, .int 0, .int 0, .int 0, .int 0])), (x21, .inr (12, [.ref x22, .ref x23, .ref x24, .ref x25, .ref x26, .ref x27, .int 0])), (x28, .inr (12, [.ref x29, .ref x30, .ref x31, .ref x32, .ref x33, .ref x34, .int 0])), (x36, .inl (ty 0, 6, .inl (fun _ => 0))), (x37, .inl (ty 0, 6, .inl (fun _ => 0))), (x1, .inr (11, [.ref x2, .int 0, .ref x3, .int 0, .ref x4, .ref x5, .int 1, .ref x6, .ref x7, .int 0])), (x8, .inr (8, [.ref x1, .ref x9, .ref x10, .ref x12, .ref x14, .int 0, .ref x15, .ref x16, .ref x17, .int 0, .ref x18, .ref x19, .int 0, .int 1, .int 2, .int 0])), (x10, .inr (6, [.ref x11])), (x11, .inl (ty 1, 6, .inr (.inl (fun _ => 0))))] H := hP
  have hD : va_D A [(x20, .inr (14, [.ref x1, .ref x8, .ref x21, .ref x28, .ref x35, .int 0, .ref x36, .ref x37, .ref x38, .int 0, .int 0, .int 0, .int 0, .int 0, .int 0, .int 0, .int 0])), (x21, .inr (12, [.ref x22, .ref x23, .ref x24, .ref x25, .ref x26, .ref x27, .int 0])), (x28, .inr (12, [.ref x29, .ref x30, .ref x31, .ref x32, .ref x33, .ref x34, .int 0])), (x36, .inl (ty 0, 6, .inl (fun _ => 0))), (x37, .inl (ty 0, 6, .inl (fun _ => 0))), (x1, .inr (11, [.ref x2, .int 0, .ref x3, .int 0, .ref x4, .ref x5, .int 1, .ref x6, .ref x7, .int 0])), (x8, .inr (8, [.ref x1, .ref x9, .ref x10, .ref x12, .ref x14, .int 0, .ref x15, .ref x16, .ref x17, .int 0, .ref x18, .ref x19, .int 0, .int 1, .int 2, .int 0])), (x10, .inr (6, [.ref x11])), (x11, .inl (ty 1, 6, .inr (.inl (fun _ => 0))))] := hD
  refine W.widen (k := 0) (n := 0) (Nat.le_of_ble_eq_true rfl) (Nat.le_of_ble_eq_true rfl) ?_
  refine va_iast (D := D) hx hb hK hP hD hS 4 0 rfl rfl (vp_in_iff.mpr (by decide)) dX9_compile_31 (fun H locs hP hD hS => ?_)
  rw [wq_upd0] at hP hD
  have hP : va_P D vwCl [(x20, .inr (14, [.ref x1, .ref x8, .ref x21, .ref x28, .ref x35, .int 0, .ref x36, .ref x37, .ref x38, .int 0, .int 0, .int 0, .int 0, .int 0, .int 0, .int 0, .int 0])), (x21, .inr (12, [.ref x22, .ref x23, .ref x24, .ref x25, .ref x26, .ref x27, .int 0])), (x28, .inr (12, [.ref x29, .ref x30, .ref x31, .ref x32, .ref x33, .ref x34, .int 0])), (x36, .inl (ty 0, 6, .inl (fun _ => 0))), (x37, .inl (ty 0, 6, .inl (fun _ => 0))), (x1, .inr (11, [.ref x2, .int 0, .ref x3, .int 0, .ref x4, .ref x5, .int 1, .ref x6, .ref x7, .int 0])), (x8, .inr (8, [.ref x1, .ref x9, .ref x10, .ref x12, .ref x14, .int 0, .ref x15, .ref x16, .ref x17, .int 0, .ref x18, .ref x19, .int 0, .int 1, .int 2, .int 0])), (x10, .inr (6, [.ref x11])), (x11, .inl (ty 1, 6, .inr (.inl (fun _ => 0))))] H := hP
  have hD : va_D A [(x20, .inr (14, [.ref x1, .ref x8, .ref x21, .ref x28, .ref x35, .int 0, .ref x36, .ref x37, .ref x38, .int 0, .int 0, .int 0, .int 0, .int 0, .int 0, .int 0, .int 0])), (x21, .inr (12, [.ref x22, .ref x23, .ref x24, .ref x25, .ref x26, .ref x27, .int 0])), (x28, .inr (12, [.ref x29, .ref x30, .ref x31, .ref x32, .ref x33, .ref x34, .int 0])), (x36, .inl (ty 0, 6, .inl (fun _ => 0))), (x37, .inl (ty 0, 6, .inl (fun _ => 0))), (x1, .inr (11, [.ref x2, .int 0, .ref x3, .int 0, .ref x4, .ref x5, .int 1, .ref x6, .ref x7, .int 0])), (x8, .inr (8, [.ref x1, .ref x9, .ref x10, .ref x12, .ref x14, .int 0, .ref x15, .ref x16, .ref x17, .int 0, .ref x18, .ref x19, .int 0, .int 1, .int 2, .int 0])), (x10, .inr (6, [.ref x11])), (x11, .inl (ty 1, 6, .inr (.inl (fun _ => 0))))] := hD
  refine lv_iinc (v := 6) (lv' := [(1, .int 6), (0, .ref x20)]) hx hb dX9_compile_32 hl (k := 0) rfl (by decide) (by decide) rfl (fun ls hl => ?_)
  refine lv_goto (tgt := 2) hx hb dX9_compile_35 (by decide) ?_
  refine lv_iload_n hx hb dX9_compile_2 rfl (lv_at hl 0 rfl) ?_
  refine lv_bipush (v := 6) hx hb dX9_compile_3 (by decide) ?_
  refine lv_icmp_ge (tgt := 38) hx hb dX9_compile_5 (by decide) (fun _ => ?_) (fun c0 => absurd (by decide) c0)
  refine lv_iconst (v := 0) hx hb dX9_compile_38 (by decide) ?_
  refine lv_istore_n (lv' := [(1, .int 0), (0, .ref x20)]) hx hb dX9_compile_39 rfl hl (by decide) rfl (fun ls hl => ?_)
  refine lv_iload_n hx hb dX9_compile_40 rfl (lv_at hl 0 rfl) ?_
  refine lv_aload_n hx hb dX9_compile_41 rfl (lv_at hl 1 rfl) ?_
  refine va_get (D := D) (ci := 14) (v := .ref x8) (C := RX9) (T := TX9) (N := 17) hx hb hts iv_a_X9_compile_0_X9 hown hK hP 0 rfl rfl 1 (by decide) (hts (.fieldLink RX9 38 "AnswerFold$Solver" "grounding" "LAnswerFold$Grounding;") (by decide +kernel)) (fun _ h9 => h9) rfl dX9_compile_42 ?_
  refine va_getN (D := D) (ci := 8) (v := .int 0) (C := RX3) (T := TX3) (N := 16) hx hb hts iv_a_X9_compile_0_X3 hown hK hP 6 rfl rfl 12 (by decide) (hE.at (.fieldLinkNest "AnswerFold$Solver" 65 "AnswerFold$Grounding" "openCount" "I" "AnswerFold") (by decide +kernel)) (fun _ h9 => h9) rfl dX9_compile_45 ?_
  refine lv_icmp_ge (tgt := 94) hx hb dX9_compile_48 (by decide) (fun _ => ?_) (fun c0 => absurd (by decide) c0)
  refine lv_aload_n hx hb dX9_compile_94 rfl (lv_at hl 1 rfl) ?_
  refine lv_iconst (v := 0) hx hb dX9_compile_95 (by decide) ?_
  refine va_put (D := D) (ci := 14) (v := .int 0) (ty := tyX9 11) (C := RX9) (T := TX9) (N := 17) hx hb hts iv_a_X9_compile_0_X9 tyX9 tyX9_ok nmX9 hown hK hP hD hS 0 rfl rfl 11 (by decide) (hts (.fieldLink RX9 75 "AnswerFold$Solver" "freeBits" "I") (by decide +kernel)) (fun _ h9 => h9) rfl (by decide +kernel) rfl rfl (Nat.le_of_ble_eq_true rfl) dX9_compile_96 (fun H locs hP hD hS => ?_)
  have hP : va_P D vwCl [(x20, .inr (14, [.ref x1, .ref x8, .ref x21, .ref x28, .ref x35, .int 0, .ref x36, .ref x37, .ref x38, .int 0, .int 0, .int 0, .int 0, .int 0, .int 0, .int 0, .int 0])), (x21, .inr (12, [.ref x22, .ref x23, .ref x24, .ref x25, .ref x26, .ref x27, .int 0])), (x28, .inr (12, [.ref x29, .ref x30, .ref x31, .ref x32, .ref x33, .ref x34, .int 0])), (x36, .inl (ty 0, 6, .inl (fun _ => 0))), (x37, .inl (ty 0, 6, .inl (fun _ => 0))), (x1, .inr (11, [.ref x2, .int 0, .ref x3, .int 0, .ref x4, .ref x5, .int 1, .ref x6, .ref x7, .int 0])), (x8, .inr (8, [.ref x1, .ref x9, .ref x10, .ref x12, .ref x14, .int 0, .ref x15, .ref x16, .ref x17, .int 0, .ref x18, .ref x19, .int 0, .int 1, .int 2, .int 0])), (x10, .inr (6, [.ref x11])), (x11, .inl (ty 1, 6, .inr (.inl (fun _ => 0))))] H := hP
  have hD : va_D A [(x20, .inr (14, [.ref x1, .ref x8, .ref x21, .ref x28, .ref x35, .int 0, .ref x36, .ref x37, .ref x38, .int 0, .int 0, .int 0, .int 0, .int 0, .int 0, .int 0, .int 0])), (x21, .inr (12, [.ref x22, .ref x23, .ref x24, .ref x25, .ref x26, .ref x27, .int 0])), (x28, .inr (12, [.ref x29, .ref x30, .ref x31, .ref x32, .ref x33, .ref x34, .int 0])), (x36, .inl (ty 0, 6, .inl (fun _ => 0))), (x37, .inl (ty 0, 6, .inl (fun _ => 0))), (x1, .inr (11, [.ref x2, .int 0, .ref x3, .int 0, .ref x4, .ref x5, .int 1, .ref x6, .ref x7, .int 0])), (x8, .inr (8, [.ref x1, .ref x9, .ref x10, .ref x12, .ref x14, .int 0, .ref x15, .ref x16, .ref x17, .int 0, .ref x18, .ref x19, .int 0, .int 1, .int 2, .int 0])), (x10, .inr (6, [.ref x11])), (x11, .inl (ty 1, 6, .inr (.inl (fun _ => 0))))] := hD
  refine lv_iconst (v := 0) hx hb dX9_compile_99 (by decide) ?_
  refine lv_istore_n (lv' := [(1, .int 0), (0, .ref x20)]) hx hb dX9_compile_100 rfl hl (by decide) rfl (fun ls hl => ?_)
  refine lv_iload_n hx hb dX9_compile_101 rfl (lv_at hl 0 rfl) ?_
  refine lv_aload_n hx hb dX9_compile_102 rfl (lv_at hl 1 rfl) ?_
  refine va_get (D := D) (ci := 14) (v := .ref x1) (C := RX9) (T := TX9) (N := 17) hx hb hts iv_a_X9_compile_0_X9 hown hK hP 0 rfl rfl 0 (by decide) (hts (.fieldLink RX9 34 "AnswerFold$Solver" "program" "LAnswerFold$Program;") (by decide +kernel)) (fun _ h9 => h9) rfl dX9_compile_103 ?_
  refine va_getN (D := D) (ci := 11) (v := .int 0) (C := RX6) (T := TX6) (N := 10) hx hb hts iv_a_X9_compile_0_X6 hown hK hP 5 rfl rfl 9 (by decide) (hE.at (.fieldLinkNest "AnswerFold$Solver" 78 "AnswerFold$Program" "externalCount" "I" "AnswerFold") (by decide +kernel)) (fun _ h9 => h9) rfl dX9_compile_106 ?_
  refine lv_icmp_ge (tgt := 152) hx hb dX9_compile_109 (by decide) (fun _ => ?_) (fun c0 => absurd (by decide) c0)
  refine lv_aload_n hx hb dX9_compile_152 rfl (lv_at hl 1 rfl) ?_
  refine wq_v (wc := [(x20, .inr (14, [.ref x1, .ref x8, .ref x21, .ref x28, .ref x35, .int 0, .ref x36, .ref x37, .ref x38, .int 0, .int 0, .int 0, .int 0, .int 0, .int 0, .int 0, .int 0])), (x1, .inr (11, [.ref x2, .int 0, .ref x3, .int 0, .ref x4, .ref x5, .int 1, .ref x6, .ref x7, .int 0]))]) (wr := [(x21, .inr (12, [.ref x22, .ref x23, .ref x24, .ref x25, .ref x26, .ref x27, .int 0])), (x28, .inr (12, [.ref x29, .ref x30, .ref x31, .ref x32, .ref x33, .ref x34, .int 0])), (x36, .inl (ty 0, 6, .inl (fun _ => 0))), (x37, .inl (ty 0, 6, .inl (fun _ => 0))), (x8, .inr (8, [.ref x1, .ref x9, .ref x10, .ref x12, .ref x14, .int 0, .ref x15, .ref x16, .ref x17, .int 0, .ref x18, .ref x19, .int 0, .int 1, .int 2, .int 0])), (x10, .inr (6, [.ref x11])), (x11, .inl (ty 1, 6, .inr (.inl (fun _ => 0))))]) (va_runV (As := []) (rest := []) ⟨hx, hb, hml, hown, hts⟩ (a_X9_noteRules_0 l D ty td mi H.size x20 x1 x8 x21 x28 x35 x36 x37 x38 x2 x3 x4 x5 x6 x7) (cwV 0 hts gv_a_X9_compile_0_6 rfl rfl rfl (by decide +kernel) ⟨(Nat.le_of_ble_eq_true rfl), (Nat.le_of_ble_eq_true rfl)⟩) (wq_preV hP hD hK hE hS hA [0, 5] rfl (by decide) 0 14 rfl rfl) rfl rfl hl.1 rfl (lv_room (Nat.le_of_ble_eq_true rfl)) dX9_compile_153 ⟨(Nat.le_of_ble_eq_true rfl), (Nat.le_of_ble_eq_true rfl)⟩) hS hA hP hD [0, 5] [1, 2, 3, 4, 6, 7, 8] rfl rfl (by decide) (by decide) (fun u H locs hw hP hD hS => ?_)
  obtain rfl := hw
  have hP : va_P D vwCl [(x21, .inr (12, [.ref x22, .ref x23, .ref x24, .ref x25, .ref x26, .ref x27, .int 0])), (x28, .inr (12, [.ref x29, .ref x30, .ref x31, .ref x32, .ref x33, .ref x34, .int 0])), (x36, .inl (ty 0, 6, .inl (fun _ => 0))), (x37, .inl (ty 0, 6, .inl (fun _ => 0))), (x8, .inr (8, [.ref x1, .ref x9, .ref x10, .ref x12, .ref x14, .int 0, .ref x15, .ref x16, .ref x17, .int 0, .ref x18, .ref x19, .int 0, .int 1, .int 2, .int 0])), (x10, .inr (6, [.ref x11])), (x11, .inl (ty 1, 6, .inr (.inl (fun _ => 0)))), (x20, .inr (14, [.ref x1, .ref x8, .ref x21, .ref x28, .ref x35, .int 0, .ref x36, .ref x37, .ref x38, .int 0, .int 0, .int 0, .int 0, .int 0, .int 0, .int 0, .int 0])), (x1, .inr (11, [.ref x2, .int 0, .ref x3, .int 0, .ref x4, .ref x5, .int 1, .ref x6, .ref x7, .int 0]))] H := hP
  have hD : va_D A [(x21, .inr (12, [.ref x22, .ref x23, .ref x24, .ref x25, .ref x26, .ref x27, .int 0])), (x28, .inr (12, [.ref x29, .ref x30, .ref x31, .ref x32, .ref x33, .ref x34, .int 0])), (x36, .inl (ty 0, 6, .inl (fun _ => 0))), (x37, .inl (ty 0, 6, .inl (fun _ => 0))), (x8, .inr (8, [.ref x1, .ref x9, .ref x10, .ref x12, .ref x14, .int 0, .ref x15, .ref x16, .ref x17, .int 0, .ref x18, .ref x19, .int 0, .int 1, .int 2, .int 0])), (x10, .inr (6, [.ref x11])), (x11, .inl (ty 1, 6, .inr (.inl (fun _ => 0)))), (x20, .inr (14, [.ref x1, .ref x8, .ref x21, .ref x28, .ref x35, .int 0, .ref x36, .ref x37, .ref x38, .int 0, .int 0, .int 0, .int 0, .int 0, .int 0, .int 0, .int 0])), (x1, .inr (11, [.ref x2, .int 0, .ref x3, .int 0, .ref x4, .ref x5, .int 1, .ref x6, .ref x7, .int 0]))] := hD
  refine W.widen (k := 0) (n := 0) (Nat.le_of_ble_eq_true rfl) (Nat.le_of_ble_eq_true rfl) ?_
  refine lv_aload_n hx hb dX9_compile_156 rfl (lv_at hl 1 rfl) ?_
  refine va_get (D := D) (ci := 14) (v := .ref x21) (C := RX9) (T := TX9) (N := 17) hx hb hts iv_a_X9_compile_0_X9 hown hK hP 7 rfl rfl 2 (by decide) (hts (.fieldLink RX9 12 "AnswerFold$Solver" "checks" "LAnswerFold$Rows;") (by decide +kernel)) (fun _ h9 => h9) rfl dX9_compile_157 ?_
  refine lv_iconst (v := 0) hx hb dX9_compile_160 (by decide) ?_
  refine va_putN (D := D) (ci := 12) (v := .int 0) (ty := tyX7 6) (C := RX7) (T := TX7) (N := 7) hx hb hts iv_a_X9_compile_0_X7 tyX7 tyX7_ok nmX7 hown hK hP hD hS 0 rfl rfl 6 (by decide) (hE.at (.fieldLinkNest "AnswerFold$Solver" 93 "AnswerFold$Rows" "count" "I" "AnswerFold") (by decide +kernel)) (fun _ h9 => h9) rfl (by decide +kernel) rfl rfl (Nat.le_of_ble_eq_true rfl) dX9_compile_161 (fun H locs hP hD hS => ?_)
  have hP : va_P D vwCl [(x21, .inr (12, [.ref x22, .ref x23, .ref x24, .ref x25, .ref x26, .ref x27, .int 0])), (x28, .inr (12, [.ref x29, .ref x30, .ref x31, .ref x32, .ref x33, .ref x34, .int 0])), (x36, .inl (ty 0, 6, .inl (fun _ => 0))), (x37, .inl (ty 0, 6, .inl (fun _ => 0))), (x8, .inr (8, [.ref x1, .ref x9, .ref x10, .ref x12, .ref x14, .int 0, .ref x15, .ref x16, .ref x17, .int 0, .ref x18, .ref x19, .int 0, .int 1, .int 2, .int 0])), (x10, .inr (6, [.ref x11])), (x11, .inl (ty 1, 6, .inr (.inl (fun _ => 0)))), (x20, .inr (14, [.ref x1, .ref x8, .ref x21, .ref x28, .ref x35, .int 0, .ref x36, .ref x37, .ref x38, .int 0, .int 0, .int 0, .int 0, .int 0, .int 0, .int 0, .int 0])), (x1, .inr (11, [.ref x2, .int 0, .ref x3, .int 0, .ref x4, .ref x5, .int 1, .ref x6, .ref x7, .int 0]))] H := hP
  have hD : va_D A [(x21, .inr (12, [.ref x22, .ref x23, .ref x24, .ref x25, .ref x26, .ref x27, .int 0])), (x28, .inr (12, [.ref x29, .ref x30, .ref x31, .ref x32, .ref x33, .ref x34, .int 0])), (x36, .inl (ty 0, 6, .inl (fun _ => 0))), (x37, .inl (ty 0, 6, .inl (fun _ => 0))), (x8, .inr (8, [.ref x1, .ref x9, .ref x10, .ref x12, .ref x14, .int 0, .ref x15, .ref x16, .ref x17, .int 0, .ref x18, .ref x19, .int 0, .int 1, .int 2, .int 0])), (x10, .inr (6, [.ref x11])), (x11, .inl (ty 1, 6, .inr (.inl (fun _ => 0)))), (x20, .inr (14, [.ref x1, .ref x8, .ref x21, .ref x28, .ref x35, .int 0, .ref x36, .ref x37, .ref x38, .int 0, .int 0, .int 0, .int 0, .int 0, .int 0, .int 0, .int 0])), (x1, .inr (11, [.ref x2, .int 0, .ref x3, .int 0, .ref x4, .ref x5, .int 1, .ref x6, .ref x7, .int 0]))] := hD
  refine lv_aload_n hx hb dX9_compile_164 rfl (lv_at hl 1 rfl) ?_
  refine va_get (D := D) (ci := 14) (v := .ref x28) (C := RX9) (T := TX9) (N := 17) hx hb hts iv_a_X9_compile_0_X9 hown hK hP 7 rfl rfl 3 (by decide) (hts (.fieldLink RX9 18 "AnswerFold$Solver" "weaks" "LAnswerFold$Rows;") (by decide +kernel)) (fun _ h9 => h9) rfl dX9_compile_165 ?_
  refine lv_iconst (v := 0) hx hb dX9_compile_168 (by decide) ?_
  refine va_putN (D := D) (ci := 12) (v := .int 0) (ty := tyX7 6) (C := RX7) (T := TX7) (N := 7) hx hb hts iv_a_X9_compile_0_X7 tyX7 tyX7_ok nmX7 hown hK hP hD hS 1 rfl rfl 6 (by decide) (hE.at (.fieldLinkNest "AnswerFold$Solver" 93 "AnswerFold$Rows" "count" "I" "AnswerFold") (by decide +kernel)) (fun _ h9 => h9) rfl (by decide +kernel) rfl rfl (Nat.le_of_ble_eq_true rfl) dX9_compile_169 (fun H locs hP hD hS => ?_)
  have hP : va_P D vwCl [(x21, .inr (12, [.ref x22, .ref x23, .ref x24, .ref x25, .ref x26, .ref x27, .int 0])), (x28, .inr (12, [.ref x29, .ref x30, .ref x31, .ref x32, .ref x33, .ref x34, .int 0])), (x36, .inl (ty 0, 6, .inl (fun _ => 0))), (x37, .inl (ty 0, 6, .inl (fun _ => 0))), (x8, .inr (8, [.ref x1, .ref x9, .ref x10, .ref x12, .ref x14, .int 0, .ref x15, .ref x16, .ref x17, .int 0, .ref x18, .ref x19, .int 0, .int 1, .int 2, .int 0])), (x10, .inr (6, [.ref x11])), (x11, .inl (ty 1, 6, .inr (.inl (fun _ => 0)))), (x20, .inr (14, [.ref x1, .ref x8, .ref x21, .ref x28, .ref x35, .int 0, .ref x36, .ref x37, .ref x38, .int 0, .int 0, .int 0, .int 0, .int 0, .int 0, .int 0, .int 0])), (x1, .inr (11, [.ref x2, .int 0, .ref x3, .int 0, .ref x4, .ref x5, .int 1, .ref x6, .ref x7, .int 0]))] H := hP
  have hD : va_D A [(x21, .inr (12, [.ref x22, .ref x23, .ref x24, .ref x25, .ref x26, .ref x27, .int 0])), (x28, .inr (12, [.ref x29, .ref x30, .ref x31, .ref x32, .ref x33, .ref x34, .int 0])), (x36, .inl (ty 0, 6, .inl (fun _ => 0))), (x37, .inl (ty 0, 6, .inl (fun _ => 0))), (x8, .inr (8, [.ref x1, .ref x9, .ref x10, .ref x12, .ref x14, .int 0, .ref x15, .ref x16, .ref x17, .int 0, .ref x18, .ref x19, .int 0, .int 1, .int 2, .int 0])), (x10, .inr (6, [.ref x11])), (x11, .inl (ty 1, 6, .inr (.inl (fun _ => 0)))), (x20, .inr (14, [.ref x1, .ref x8, .ref x21, .ref x28, .ref x35, .int 0, .ref x36, .ref x37, .ref x38, .int 0, .int 0, .int 0, .int 0, .int 0, .int 0, .int 0, .int 0])), (x1, .inr (11, [.ref x2, .int 0, .ref x3, .int 0, .ref x4, .ref x5, .int 1, .ref x6, .ref x7, .int 0]))] := hD
  refine lv_iconst (v := 0) hx hb dX9_compile_172 (by decide) ?_
  refine lv_istore_n (lv' := [(1, .int 0), (0, .ref x20)]) hx hb dX9_compile_173 rfl hl (by decide) rfl (fun ls hl => ?_)
  refine lv_iload_n hx hb dX9_compile_174 rfl (lv_at hl 0 rfl) ?_
  refine lv_aload_n hx hb dX9_compile_175 rfl (lv_at hl 1 rfl) ?_
  refine va_get (D := D) (ci := 14) (v := .ref x8) (C := RX9) (T := TX9) (N := 17) hx hb hts iv_a_X9_compile_0_X9 hown hK hP 7 rfl rfl 1 (by decide) (hts (.fieldLink RX9 38 "AnswerFold$Solver" "grounding" "LAnswerFold$Grounding;") (by decide +kernel)) (fun _ h9 => h9) rfl dX9_compile_176 ?_
  refine va_getN (D := D) (ci := 8) (v := .int 0) (C := RX3) (T := TX3) (N := 16) hx hb hts iv_a_X9_compile_0_X3 hown hK hP 4 rfl rfl 9 (by decide) (hE.at (.fieldLinkNest "AnswerFold$Solver" 96 "AnswerFold$Grounding" "keptCount" "I" "AnswerFold") (by decide +kernel)) (fun _ h9 => h9) rfl dX9_compile_179 ?_
  refine lv_icmp_ge (tgt := 196) hx hb dX9_compile_182 (by decide) (fun _ => ?_) (fun c0 => absurd (by decide) c0)
  refine lv_aload_n hx hb dX9_compile_196 rfl (lv_at hl 1 rfl) ?_
  refine lv_iconst (v := 0) hx hb dX9_compile_197 (by decide) ?_
  refine va_put (D := D) (ci := 14) (v := .int 0) (ty := tyX9 15) (C := RX9) (T := TX9) (N := 17) hx hb hts iv_a_X9_compile_0_X9 tyX9 tyX9_ok nmX9 hown hK hP hD hS 7 rfl rfl 15 (by decide) (hts (.fieldLink RX9 103 "AnswerFold$Solver" "lastBroken" "I") (by decide +kernel)) (fun _ h9 => h9) rfl (by decide +kernel) rfl rfl (Nat.le_of_ble_eq_true rfl) dX9_compile_198 (fun H locs hP hD hS => ?_)
  have hP : va_P D vwCl [(x21, .inr (12, [.ref x22, .ref x23, .ref x24, .ref x25, .ref x26, .ref x27, .int 0])), (x28, .inr (12, [.ref x29, .ref x30, .ref x31, .ref x32, .ref x33, .ref x34, .int 0])), (x36, .inl (ty 0, 6, .inl (fun _ => 0))), (x37, .inl (ty 0, 6, .inl (fun _ => 0))), (x8, .inr (8, [.ref x1, .ref x9, .ref x10, .ref x12, .ref x14, .int 0, .ref x15, .ref x16, .ref x17, .int 0, .ref x18, .ref x19, .int 0, .int 1, .int 2, .int 0])), (x10, .inr (6, [.ref x11])), (x11, .inl (ty 1, 6, .inr (.inl (fun _ => 0)))), (x20, .inr (14, [.ref x1, .ref x8, .ref x21, .ref x28, .ref x35, .int 0, .ref x36, .ref x37, .ref x38, .int 0, .int 0, .int 0, .int 0, .int 0, .int 0, .int 0, .int 0])), (x1, .inr (11, [.ref x2, .int 0, .ref x3, .int 0, .ref x4, .ref x5, .int 1, .ref x6, .ref x7, .int 0]))] H := hP
  have hD : va_D A [(x21, .inr (12, [.ref x22, .ref x23, .ref x24, .ref x25, .ref x26, .ref x27, .int 0])), (x28, .inr (12, [.ref x29, .ref x30, .ref x31, .ref x32, .ref x33, .ref x34, .int 0])), (x36, .inl (ty 0, 6, .inl (fun _ => 0))), (x37, .inl (ty 0, 6, .inl (fun _ => 0))), (x8, .inr (8, [.ref x1, .ref x9, .ref x10, .ref x12, .ref x14, .int 0, .ref x15, .ref x16, .ref x17, .int 0, .ref x18, .ref x19, .int 0, .int 1, .int 2, .int 0])), (x10, .inr (6, [.ref x11])), (x11, .inl (ty 1, 6, .inr (.inl (fun _ => 0)))), (x20, .inr (14, [.ref x1, .ref x8, .ref x21, .ref x28, .ref x35, .int 0, .ref x36, .ref x37, .ref x38, .int 0, .int 0, .int 0, .int 0, .int 0, .int 0, .int 0, .int 0])), (x1, .inr (11, [.ref x2, .int 0, .ref x3, .int 0, .ref x4, .ref x5, .int 1, .ref x6, .ref x7, .int 0]))] := hD
  have hP9 := hP.sub (ws' := [(x21, .inr (12, [.ref x22, .ref x23, .ref x24, .ref x25, .ref x26, .ref x27, .int 0])), (x28, .inr (12, [.ref x29, .ref x30, .ref x31, .ref x32, .ref x33, .ref x34, .int 0])), (x36, .inl (ty 0, 6, .inl (fun _ => 0))), (x37, .inl (ty 0, 6, .inl (fun _ => 0))), (x8, .inr (8, [.ref x1, .ref x9, .ref x10, .ref x12, .ref x14, .int 0, .ref x15, .ref x16, .ref x17, .int 0, .ref x18, .ref x19, .int 0, .int 1, .int 2, .int 0])), (x10, .inr (6, [.ref x11])), (x11, .inl (ty 1, 6, .inr (.inl (fun _ => 0)))), (x20, .inr (14, [.ref x1, .ref x8, .ref x21, .ref x28, .ref x35, .int 0, .ref x36, .ref x37, .ref x38, .int 0, .int 0, .int 0, .int 0, .int 0, .int 0, .int 0, .int 0])), (x1, .inr (11, [.ref x2, .int 0, .ref x3, .int 0, .ref x4, .ref x5, .int 1, .ref x6, .ref x7, .int 0]))]) [0, 1, 2, 3, 4, 5, 6, 7, 8] rfl
  have hD9 := hD.sub (ws' := [(x21, .inr (12, [.ref x22, .ref x23, .ref x24, .ref x25, .ref x26, .ref x27, .int 0])), (x28, .inr (12, [.ref x29, .ref x30, .ref x31, .ref x32, .ref x33, .ref x34, .int 0])), (x36, .inl (ty 0, 6, .inl (fun _ => 0))), (x37, .inl (ty 0, 6, .inl (fun _ => 0))), (x8, .inr (8, [.ref x1, .ref x9, .ref x10, .ref x12, .ref x14, .int 0, .ref x15, .ref x16, .ref x17, .int 0, .ref x18, .ref x19, .int 0, .int 1, .int 2, .int 0])), (x10, .inr (6, [.ref x11])), (x11, .inl (ty 1, 6, .inr (.inl (fun _ => 0)))), (x20, .inr (14, [.ref x1, .ref x8, .ref x21, .ref x28, .ref x35, .int 0, .ref x36, .ref x37, .ref x38, .int 0, .int 0, .int 0, .int 0, .int 0, .int 0, .int 0, .int 0])), (x1, .inr (11, [.ref x2, .int 0, .ref x3, .int 0, .ref x4, .ref x5, .int 1, .ref x6, .ref x7, .int 0]))]) [0, 1, 2, 3, 4, 5, 6, 7, 8] (by decide) rfl
  refine W.widen (k := 0) (n := 0) (Nat.le_of_ble_eq_true rfl) (Nat.le_of_ble_eq_true rfl) ?_
  exact W.vret hx hb hr (fun t ht hW => ⟨⟨[(x21, .inr (12, [.ref x22, .ref x23, .ref x24, .ref x25, .ref x26, .ref x27, .int 0])), (x28, .inr (12, [.ref x29, .ref x30, .ref x31, .ref x32, .ref x33, .ref x34, .int 0])), (x36, .inl (ty 0, 6, .inl (fun _ => 0))), (x37, .inl (ty 0, 6, .inl (fun _ => 0))), (x8, .inr (8, [.ref x1, .ref x9, .ref x10, .ref x12, .ref x14, .int 0, .ref x15, .ref x16, .ref x17, .int 0, .ref x18, .ref x19, .int 0, .int 1, .int 2, .int 0])), (x10, .inr (6, [.ref x11])), (x11, .inl (ty 1, 6, .inr (.inl (fun _ => 0)))), (x20, .inr (14, [.ref x1, .ref x8, .ref x21, .ref x28, .ref x35, .int 0, .ref x36, .ref x37, .ref x38, .int 0, .int 0, .int 0, .int 0, .int 0, .int 0, .int 0, .int 0])), (x1, .inr (11, [.ref x2, .int 0, .ref x3, .int 0, .ref x4, .ref x5, .int 1, .ref x6, .ref x7, .int 0]))], rfl, rfl, wq_B.of ht hP9 hD9⟩, hS.F ht⟩) hS.2.2 dX9_compile_201
def vs_a_X9_fitAssumptions_0 : List Cond := .code yX9_fitAssumptions cX9_fitAssumptions 4 none :: ([.fieldLink RX9 182 "AnswerFold$Solver" "mustHave" "I", .fieldLink RX9 185 "AnswerFold$Solver" "mustLack" "I", .fieldLink RX9 188 "AnswerFold$Solver" "isHopeless" "Z", .methodLink RX9 191 yX1_contains, .instanceMethod yX1_contains, .selects RX1 yX1_contains yX1_contains, .initialized RX1] ++ (u_ws RX9 TX9 17 ++ (vs_k_X1_contains)))
theorem iv_a_X9_fitAssumptions_0_X9 : ∀ w ∈ u_ws RX9 TX9 17, w ∈ vs_a_X9_fitAssumptions_0 := (fun _ h => List.mem_cons_of_mem _ (List.mem_append_right _ (List.mem_append_left _ h)))
set_option maxRecDepth 20000 in
theorem gv_a_X9_fitAssumptions_0_0 : GoodIn vs_a_X9_fitAssumptions_0 (wsV RX9 191 RX1 yX1_contains vs_k_X1_contains) := goodIn_app (goodIn_sub (by decide +kernel) (by decide +kernel)) (goodIn_sub (fun _ h => List.mem_cons_of_mem _ (List.mem_append_right _ (List.mem_append_right _ (h)))) (by decide +kernel))
set_option maxRecDepth 20000 in
theorem gv_a_X9_fitAssumptions_0_1 : GoodIn vs_a_X9_fitAssumptions_0 (wsV RX9 191 RX1 yX1_contains vs_k_X1_contains) := goodIn_app (goodIn_sub (by decide +kernel) (by decide +kernel)) (goodIn_sub (fun _ h => List.mem_cons_of_mem _ (List.mem_append_right _ (List.mem_append_right _ (h)))) (by decide +kernel))
set_option maxHeartbeats 4000000 in
set_option maxRecDepth 100000 in
theorem a_X9_fitAssumptions_0 (l : Launch) (D : va_G) (ty : Nat → ClassId) (td mi sz : Nat) (x41 : Nat) (x42 : Nat) (x43 : Nat) (x44 : Nat) (x20 : Nat) (x1 : Nat) (x8 : Nat) (x21 : Nat) (x28 : Nat) (x35 : Nat) (x36 : Nat) (x37 : Nat) (x38 : Nat) : Met l yX9_fitAssumptions vs_a_X9_fitAssumptions_0 { frames := 1, cells := 0, slots := 0, locals := 21 } (va_Pc [.ref x20, .ref x41, .ref x43] (wq_P D ty td mi [(x41, .inr (6, [.ref x42])), (x42, .inl (ty 1, 6, .inr (.inl (fun _ => 0)))), (x43, .inr (6, [.ref x44])), (x44, .inl (ty 1, 6, .inr (.inl (fun _ => 0)))), (x20, .inr (14, [.ref x1, .ref x8, .ref x21, .ref x28, .ref x35, .int 0, .ref x36, .ref x37, .ref x38, .int 0, .int 0, .int 0, .int 0, .int 0, .int 0, .int 0, .int 1]))] sz)) (va_Qv (fun u : va_W => ((u = [(x41, .inr (6, [.ref x42])), (x42, .inl (ty 1, 6, .inr (.inl (fun _ => 0)))), (x43, .inr (6, [.ref x44])), (x44, .inl (ty 1, 6, .inr (.inl (fun _ => 0)))), (x20, .inr (14, [.ref x1, .ref x8, .ref x21, .ref x28, .ref x35, .int 0, .ref x36, .ref x37, .ref x38, .int 0, .int 0, .int 0, .int 0, .int 0, .int 0, .int 0, .int 1]))]))) (wq_B D (va_A [(x41, .inr (6, [.ref x42])), (x42, .inl (ty 1, 6, .inr (.inl (fun _ => 0)))), (x43, .inr (6, [.ref x44])), (x44, .inl (ty 1, 6, .inr (.inl (fun _ => 0)))), (x20, .inr (14, [.ref x1, .ref x8, .ref x21, .ref x28, .ref x35, .int 0, .ref x36, .ref x37, .ref x38, .int 0, .int 0, .int 0, .int 0, .int 0, .int 0, .int 0, .int 1]))] sz)) (va_A [(x41, .inr (6, [.ref x42])), (x42, .inl (ty 1, 6, .inr (.inl (fun _ => 0)))), (x43, .inr (6, [.ref x44])), (x44, .inl (ty 1, 6, .inr (.inl (fun _ => 0)))), (x20, .inr (14, [.ref x1, .ref x8, .ref x21, .ref x28, .ref x35, .int 0, .ref x36, .ref x37, .ref x38, .int 0, .int 0, .int 0, .int 0, .int 0, .int 0, .int 0, .int 1]))] sz)) 0 0 (va_A [(x41, .inr (6, [.ref x42])), (x42, .inl (ty 1, 6, .inr (.inl (fun _ => 0)))), (x43, .inr (6, [.ref x44])), (x44, .inl (ty 1, 6, .inr (.inl (fun _ => 0)))), (x20, .inr (14, [.ref x1, .ref x8, .ref x21, .ref x28, .ref x35, .int 0, .ref x36, .ref x37, .ref x38, .int 0, .int 0, .int 0, .int 0, .int 0, .int 0, .int 0, .int 1]))] sz) := by
  refine Met.ofW (cc := cX9_fitAssumptions) (maxL := 4) (ret := none) (by decide) rfl ?_
  intro p e s m args below meth c s₁ B hml hv
  obtain ⟨rfl, hsz, hP, hK, hD0, hE⟩ := hv
  have hx := B.exec
  have hb := B.bytes
  have hr := B.returns
  have hts := atoms_spec (ws := vs_a_X9_fitAssumptions_0) B.pre
  have hown : s.vm.findClass RX9 = some m.cls := findClass_of_methodNamed B.named
  have hlocks := B.notSynchronized
  subst hsz
  have hD := hD0.self (sz := s.heap.size)
  generalize hAe : va_A [(x41, .inr (6, [.ref x42])), (x42, .inl (ty 1, 6, .inr (.inl (fun _ => 0)))), (x43, .inr (6, [.ref x44])), (x44, .inl (ty 1, 6, .inr (.inl (fun _ => 0)))), (x20, .inr (14, [.ref x1, .ref x8, .ref x21, .ref x28, .ref x35, .int 0, .ref x36, .ref x37, .ref x38, .int 0, .int 0, .int 0, .int 0, .int 0, .int 0, .int 0, .int 1]))] s.heap.size = A at hD hE ⊢
  have hA : ∀ q : Nat, s.heap.size ≤ q → A q := fun q h => by rw [← hAe]; exact Or.inr h
  have hS : va_S A s.heap s.heap [] := va_S.rf
  have hP : va_P D vwCl [(x41, .inr (6, [.ref x42])), (x42, .inl (ty 1, 6, .inr (.inl (fun _ => 0)))), (x43, .inr (6, [.ref x44])), (x44, .inl (ty 1, 6, .inr (.inl (fun _ => 0)))), (x20, .inr (14, [.ref x1, .ref x8, .ref x21, .ref x28, .ref x35, .int 0, .ref x36, .ref x37, .ref x38, .int 0, .int 0, .int 0, .int 0, .int 0, .int 0, .int 0, .int 1]))] s.heap := hP
  have hl := lv_entry ([.ref x20, .ref x41, .ref x43]) (n := 4) (Nat.le_of_ble_eq_true rfl)
  rw [lg_entry_eq]
  generalize (lg_sl ([.ref x20, .ref x41, .ref x43]) ++ List.replicate (4 - (lg_sl ([.ref x20, .ref x41, .ref x43])).length) Slot.unset).toArray = ls at hl ⊢
  have hl : lv_has ls 4 [(0, .ref x20), (1, .ref x41), (2, .ref x43)] := hl
  refine lv_aload_n hx hb dX9_fitAssumptions_0 rfl (lv_at hl 0 rfl) ?_
  refine lv_iconst (v := 0) hx hb dX9_fitAssumptions_1 (by decide) ?_
  refine va_put (D := D) (ci := 14) (v := .int 0) (ty := tyX9 12) (C := RX9) (T := TX9) (N := 17) hx hb hts iv_a_X9_fitAssumptions_0_X9 tyX9 tyX9_ok nmX9 hown hK hP hD hS 4 rfl rfl 12 (by decide) (hts (.fieldLink RX9 182 "AnswerFold$Solver" "mustHave" "I") (by decide +kernel)) (fun _ h9 => h9) rfl (by decide +kernel) rfl rfl (Nat.le_of_ble_eq_true rfl) dX9_fitAssumptions_2 (fun H locs hP hD hS => ?_)
  have hP : va_P D vwCl [(x41, .inr (6, [.ref x42])), (x42, .inl (ty 1, 6, .inr (.inl (fun _ => 0)))), (x43, .inr (6, [.ref x44])), (x44, .inl (ty 1, 6, .inr (.inl (fun _ => 0)))), (x20, .inr (14, [.ref x1, .ref x8, .ref x21, .ref x28, .ref x35, .int 0, .ref x36, .ref x37, .ref x38, .int 0, .int 0, .int 0, .int 0, .int 0, .int 0, .int 0, .int 1]))] H := hP
  have hD : va_D A [(x41, .inr (6, [.ref x42])), (x42, .inl (ty 1, 6, .inr (.inl (fun _ => 0)))), (x43, .inr (6, [.ref x44])), (x44, .inl (ty 1, 6, .inr (.inl (fun _ => 0)))), (x20, .inr (14, [.ref x1, .ref x8, .ref x21, .ref x28, .ref x35, .int 0, .ref x36, .ref x37, .ref x38, .int 0, .int 0, .int 0, .int 0, .int 0, .int 0, .int 0, .int 1]))] := hD
  refine lv_aload_n hx hb dX9_fitAssumptions_5 rfl (lv_at hl 0 rfl) ?_
  refine lv_iconst (v := 0) hx hb dX9_fitAssumptions_6 (by decide) ?_
  refine va_put (D := D) (ci := 14) (v := .int 0) (ty := tyX9 13) (C := RX9) (T := TX9) (N := 17) hx hb hts iv_a_X9_fitAssumptions_0_X9 tyX9 tyX9_ok nmX9 hown hK hP hD hS 4 rfl rfl 13 (by decide) (hts (.fieldLink RX9 185 "AnswerFold$Solver" "mustLack" "I") (by decide +kernel)) (fun _ h9 => h9) rfl (by decide +kernel) rfl rfl (Nat.le_of_ble_eq_true rfl) dX9_fitAssumptions_7 (fun H locs hP hD hS => ?_)
  have hP : va_P D vwCl [(x41, .inr (6, [.ref x42])), (x42, .inl (ty 1, 6, .inr (.inl (fun _ => 0)))), (x43, .inr (6, [.ref x44])), (x44, .inl (ty 1, 6, .inr (.inl (fun _ => 0)))), (x20, .inr (14, [.ref x1, .ref x8, .ref x21, .ref x28, .ref x35, .int 0, .ref x36, .ref x37, .ref x38, .int 0, .int 0, .int 0, .int 0, .int 0, .int 0, .int 0, .int 1]))] H := hP
  have hD : va_D A [(x41, .inr (6, [.ref x42])), (x42, .inl (ty 1, 6, .inr (.inl (fun _ => 0)))), (x43, .inr (6, [.ref x44])), (x44, .inl (ty 1, 6, .inr (.inl (fun _ => 0)))), (x20, .inr (14, [.ref x1, .ref x8, .ref x21, .ref x28, .ref x35, .int 0, .ref x36, .ref x37, .ref x38, .int 0, .int 0, .int 0, .int 0, .int 0, .int 0, .int 0, .int 1]))] := hD
  refine lv_aload_n hx hb dX9_fitAssumptions_10 rfl (lv_at hl 0 rfl) ?_
  refine lv_iconst (v := 0) hx hb dX9_fitAssumptions_11 (by decide) ?_
  refine va_put (D := D) (ci := 14) (v := .int 0) (ty := tyX9 14) (C := RX9) (T := TX9) (N := 17) hx hb hts iv_a_X9_fitAssumptions_0_X9 tyX9 tyX9_ok nmX9 hown hK hP hD hS 4 rfl rfl 14 (by decide) (hts (.fieldLink RX9 188 "AnswerFold$Solver" "isHopeless" "Z") (by decide +kernel)) (fun _ h9 => h9) rfl (by decide +kernel) rfl rfl (Nat.le_of_ble_eq_true rfl) dX9_fitAssumptions_12 (fun H locs hP hD hS => ?_)
  have hP : va_P D vwCl [(x41, .inr (6, [.ref x42])), (x42, .inl (ty 1, 6, .inr (.inl (fun _ => 0)))), (x43, .inr (6, [.ref x44])), (x44, .inl (ty 1, 6, .inr (.inl (fun _ => 0)))), (x20, .inr (14, [.ref x1, .ref x8, .ref x21, .ref x28, .ref x35, .int 0, .ref x36, .ref x37, .ref x38, .int 0, .int 0, .int 0, .int 0, .int 0, .int 0, .int 0, .int 1]))] H := hP
  have hD : va_D A [(x41, .inr (6, [.ref x42])), (x42, .inl (ty 1, 6, .inr (.inl (fun _ => 0)))), (x43, .inr (6, [.ref x44])), (x44, .inl (ty 1, 6, .inr (.inl (fun _ => 0)))), (x20, .inr (14, [.ref x1, .ref x8, .ref x21, .ref x28, .ref x35, .int 0, .ref x36, .ref x37, .ref x38, .int 0, .int 0, .int 0, .int 0, .int 0, .int 0, .int 0, .int 1]))] := hD
  refine lv_iconst (v := 0) hx hb dX9_fitAssumptions_15 (by decide) ?_
  refine lv_istore_n (lv' := [(3, .int 0), (0, .ref x20), (1, .ref x41), (2, .ref x43)]) hx hb dX9_fitAssumptions_16 rfl hl (by decide) rfl (fun ls hl => ?_)
  have LOOP : ∀ (n i : Nat), i ≤ 384 → 384 - i < n → ∀ (H : Heap) (locs : List Loc), va_P D vwCl [(x41, .inr (6, [.ref x42])), (x42, .inl (ty 1, 6, .inr (.inl (fun _ => 0)))), (x43, .inr (6, [.ref x44])), (x44, .inl (ty 1, 6, .inr (.inl (fun _ => 0)))), (x20, .inr (14, [.ref x1, .ref x8, .ref x21, .ref x28, .ref x35, .int 0, .ref x36, .ref x37, .ref x38, .int 0, .int 0, .int 0, .int 0, .int 0, .int 0, .int 0, .int 1]))] H → va_D A [(x41, .inr (6, [.ref x42])), (x42, .inl (ty 1, 6, .inr (.inl (fun _ => 0)))), (x43, .inr (6, [.ref x44])), (x44, .inl (ty 1, 6, .inr (.inl (fun _ => 0)))), (x20, .inr (14, [.ref x1, .ref x8, .ref x21, .ref x28, .ref x35, .int 0, .ref x36, .ref x37, .ref x38, .int 0, .int 0, .int 0, .int 0, .int 0, .int 0, .int 0, .int 1]))] → va_S A s.heap H locs → ∀ ls : Array Slot, lv_has ls 4 [(3, .int (nI i)), (0, .ref x20), (1, .ref x41), (2, .ref x43)] → W p l e (headSpec vs_a_X9_fitAssumptions_0 { frames := 1, cells := 0, slots := 0, locals := 21 }).room s m ([.ref x20, .ref x41, .ref x43] : List Value).toArray below meth c H locs 0 0 (MQ below (va_Qv (fun u : va_W => ((u = [(x41, .inr (6, [.ref x42])), (x42, .inl (ty 1, 6, .inr (.inl (fun _ => 0)))), (x43, .inr (6, [.ref x44])), (x44, .inl (ty 1, 6, .inr (.inl (fun _ => 0)))), (x20, .inr (14, [.ref x1, .ref x8, .ref x21, .ref x28, .ref x35, .int 0, .ref x36, .ref x37, .ref x38, .int 0, .int 0, .int 0, .int 0, .int 0, .int 0, .int 0, .int 1]))]))) (wq_B D A) A) ([.ref x20, .ref x41, .ref x43] : List Value).toArray s 0 0 A) (F0 m 17 ls []) := by
    intro n
    induction n with
    | zero => intro i h1 h2; omega
    | succ n ih =>
      intro i hi hn H locs hP hD hS ls hl
      refine lv_iload_n hx hb dX9_fitAssumptions_17 rfl (lv_at hl 0 rfl) ?_
      refine lv_sipush (v := 384) hx hb dX9_fitAssumptions_18 (by decide) ?_
      refine lv_icmp_ge (tgt := 134) hx hb dX9_fitAssumptions_21 (by decide) (fun c0 => ?_) (fun c0 => ?_)
      · have hiN : i = 384 := wq_geN (N := 384) c0 hi (by decide)
        subst hiN
        have hl : lv_has ls 4 [(3, .int 384), (0, .ref x20), (1, .ref x41), (2, .ref x43)] := hl
        have hP : va_P D vwCl [(x41, .inr (6, [.ref x42])), (x42, .inl (ty 1, 6, .inr (.inl (fun _ => 0)))), (x43, .inr (6, [.ref x44])), (x44, .inl (ty 1, 6, .inr (.inl (fun _ => 0)))), (x20, .inr (14, [.ref x1, .ref x8, .ref x21, .ref x28, .ref x35, .int 0, .ref x36, .ref x37, .ref x38, .int 0, .int 0, .int 0, .int 0, .int 0, .int 0, .int 0, .int 1]))] H := hP
        have hD : va_D A [(x41, .inr (6, [.ref x42])), (x42, .inl (ty 1, 6, .inr (.inl (fun _ => 0)))), (x43, .inr (6, [.ref x44])), (x44, .inl (ty 1, 6, .inr (.inl (fun _ => 0)))), (x20, .inr (14, [.ref x1, .ref x8, .ref x21, .ref x28, .ref x35, .int 0, .ref x36, .ref x37, .ref x38, .int 0, .int 0, .int 0, .int 0, .int 0, .int 0, .int 0, .int 1]))] := hD
        have hP9 := hP.sub (ws' := [(x41, .inr (6, [.ref x42])), (x42, .inl (ty 1, 6, .inr (.inl (fun _ => 0)))), (x43, .inr (6, [.ref x44])), (x44, .inl (ty 1, 6, .inr (.inl (fun _ => 0)))), (x20, .inr (14, [.ref x1, .ref x8, .ref x21, .ref x28, .ref x35, .int 0, .ref x36, .ref x37, .ref x38, .int 0, .int 0, .int 0, .int 0, .int 0, .int 0, .int 0, .int 1]))]) [0, 1, 2, 3, 4] rfl
        have hD9 := hD.sub (ws' := [(x41, .inr (6, [.ref x42])), (x42, .inl (ty 1, 6, .inr (.inl (fun _ => 0)))), (x43, .inr (6, [.ref x44])), (x44, .inl (ty 1, 6, .inr (.inl (fun _ => 0)))), (x20, .inr (14, [.ref x1, .ref x8, .ref x21, .ref x28, .ref x35, .int 0, .ref x36, .ref x37, .ref x38, .int 0, .int 0, .int 0, .int 0, .int 0, .int 0, .int 0, .int 1]))]) [0, 1, 2, 3, 4] (by decide) rfl
        refine W.widen (k := 0) (n := 0) (Nat.le_of_ble_eq_true rfl) (Nat.le_of_ble_eq_true rfl) ?_
        exact W.vret hx hb hr (fun t ht hW => ⟨⟨[(x41, .inr (6, [.ref x42])), (x42, .inl (ty 1, 6, .inr (.inl (fun _ => 0)))), (x43, .inr (6, [.ref x44])), (x44, .inl (ty 1, 6, .inr (.inl (fun _ => 0)))), (x20, .inr (14, [.ref x1, .ref x8, .ref x21, .ref x28, .ref x35, .int 0, .ref x36, .ref x37, .ref x38, .int 0, .int 0, .int 0, .int 0, .int 0, .int 0, .int 0, .int 1]))], rfl, rfl, wq_B.of ht hP9 hD9⟩, hS.F ht⟩) hS.2.2 dX9_fitAssumptions_134
      · have hlt : i < 384 := wq_ltN (N := 384) c0 hi (by decide)
        refine lv_aload_n hx hb dX9_fitAssumptions_24 rfl (lv_at hl 2 rfl) ?_
        refine lv_iload_n hx hb dX9_fitAssumptions_25 rfl (lv_at hl 0 rfl) ?_
        refine wq_i (wc := [(x41, .inr (6, [.ref x42])), (x42, .inl (ty 1, 6, .inr (.inl (fun _ => 0))))]) (wr := [(x43, .inr (6, [.ref x44])), (x44, .inl (ty 1, 6, .inr (.inl (fun _ => 0)))), (x20, .inr (14, [.ref x1, .ref x8, .ref x21, .ref x28, .ref x35, .int 0, .ref x36, .ref x37, .ref x38, .int 0, .int 0, .int 0, .int 0, .int 0, .int 0, .int 0, .int 1]))]) (va_runV (As := [.int (nI i)]) (rest := []) ⟨hx, hb, hml, hown, hts⟩ (k_X1_contains l D ty td mi H.size x41 x42 (nI i)) (cwV 1 hts gv_a_X9_fitAssumptions_0_0 rfl rfl rfl (by decide +kernel) ⟨(Nat.le_of_ble_eq_true rfl), (Nat.le_of_ble_eq_true rfl)⟩) (wq_preV hP hD hK hE hS hA [0, 1] rfl (by decide) 0 6 rfl rfl) rfl rfl hl.1 rfl (lv_room (Nat.le_of_ble_eq_true rfl)) dX9_fitAssumptions_26 ⟨(Nat.le_of_ble_eq_true rfl), (Nat.le_of_ble_eq_true rfl)⟩) hS hA hP hD [0, 1] [2, 3, 4] rfl rfl (by decide) (by decide) (fun r u H locs hw hP hD hS => ?_)
        obtain ⟨rfl, rfl⟩ := hw
        have hP : va_P D vwCl [(x43, .inr (6, [.ref x44])), (x44, .inl (ty 1, 6, .inr (.inl (fun _ => 0)))), (x20, .inr (14, [.ref x1, .ref x8, .ref x21, .ref x28, .ref x35, .int 0, .ref x36, .ref x37, .ref x38, .int 0, .int 0, .int 0, .int 0, .int 0, .int 0, .int 0, .int 1])), (x41, .inr (6, [.ref x42])), (x42, .inl (ty 1, 6, .inr (.inl (fun _ => 0))))] H := hP
        have hD : va_D A [(x43, .inr (6, [.ref x44])), (x44, .inl (ty 1, 6, .inr (.inl (fun _ => 0)))), (x20, .inr (14, [.ref x1, .ref x8, .ref x21, .ref x28, .ref x35, .int 0, .ref x36, .ref x37, .ref x38, .int 0, .int 0, .int 0, .int 0, .int 0, .int 0, .int 0, .int 1])), (x41, .inr (6, [.ref x42])), (x42, .inl (ty 1, 6, .inr (.inl (fun _ => 0))))] := hD
        refine W.widen (k := 0) (n := 0) (Nat.le_of_ble_eq_true rfl) (Nat.le_of_ble_eq_true rfl) ?_
        refine lv_if_eq (tgt := 76) hx hb dX9_fitAssumptions_29 (by decide) (fun _ => ?_) (fun c0 => absurd (by decide) c0)
        refine lv_aload_n hx hb dX9_fitAssumptions_76 rfl (lv_at hl 3 rfl) ?_
        refine lv_iload_n hx hb dX9_fitAssumptions_77 rfl (lv_at hl 0 rfl) ?_
        refine wq_i (wc := [(x43, .inr (6, [.ref x44])), (x44, .inl (ty 1, 6, .inr (.inl (fun _ => 0))))]) (wr := [(x20, .inr (14, [.ref x1, .ref x8, .ref x21, .ref x28, .ref x35, .int 0, .ref x36, .ref x37, .ref x38, .int 0, .int 0, .int 0, .int 0, .int 0, .int 0, .int 0, .int 1])), (x41, .inr (6, [.ref x42])), (x42, .inl (ty 1, 6, .inr (.inl (fun _ => 0))))]) (va_runV (As := [.int (nI i)]) (rest := []) ⟨hx, hb, hml, hown, hts⟩ (k_X1_contains l D ty td mi H.size x43 x44 (nI i)) (cwV 1 hts gv_a_X9_fitAssumptions_0_1 rfl rfl rfl (by decide +kernel) ⟨(Nat.le_of_ble_eq_true rfl), (Nat.le_of_ble_eq_true rfl)⟩) (wq_preV hP hD hK hE hS hA [0, 1] rfl (by decide) 0 6 rfl rfl) rfl rfl hl.1 rfl (lv_room (Nat.le_of_ble_eq_true rfl)) dX9_fitAssumptions_78 ⟨(Nat.le_of_ble_eq_true rfl), (Nat.le_of_ble_eq_true rfl)⟩) hS hA hP hD [0, 1] [2, 3, 4] rfl rfl (by decide) (by decide) (fun r u H locs hw hP hD hS => ?_)
        obtain ⟨rfl, rfl⟩ := hw
        have hP : va_P D vwCl [(x20, .inr (14, [.ref x1, .ref x8, .ref x21, .ref x28, .ref x35, .int 0, .ref x36, .ref x37, .ref x38, .int 0, .int 0, .int 0, .int 0, .int 0, .int 0, .int 0, .int 1])), (x41, .inr (6, [.ref x42])), (x42, .inl (ty 1, 6, .inr (.inl (fun _ => 0)))), (x43, .inr (6, [.ref x44])), (x44, .inl (ty 1, 6, .inr (.inl (fun _ => 0))))] H := hP
        have hD : va_D A [(x20, .inr (14, [.ref x1, .ref x8, .ref x21, .ref x28, .ref x35, .int 0, .ref x36, .ref x37, .ref x38, .int 0, .int 0, .int 0, .int 0, .int 0, .int 0, .int 0, .int 1])), (x41, .inr (6, [.ref x42])), (x42, .inl (ty 1, 6, .inr (.inl (fun _ => 0)))), (x43, .inr (6, [.ref x44])), (x44, .inl (ty 1, 6, .inr (.inl (fun _ => 0))))] := hD
        refine W.widen (k := 0) (n := 0) (Nat.le_of_ble_eq_true rfl) (Nat.le_of_ble_eq_true rfl) ?_
        refine lv_if_eq (tgt := 128) hx hb dX9_fitAssumptions_81 (by decide) (fun _ => ?_) (fun c0 => absurd (by decide) c0)
        refine lv_iinc (v := nI (i + 1)) (lv' := [(3, .int (nI (i + 1))), (0, .ref x20), (1, .ref x41), (2, .ref x43)]) hx hb dX9_fitAssumptions_128 hl (k := 0) rfl (by exact nI_1 i) (by decide) rfl (fun ls hl => ?_)
        refine lv_goto (tgt := 17) hx hb dX9_fitAssumptions_131 (by decide) ?_
        have hP : va_P D vwCl [(x20, .inr (14, [.ref x1, .ref x8, .ref x21, .ref x28, .ref x35, .int 0, .ref x36, .ref x37, .ref x38, .int 0, .int 0, .int 0, .int 0, .int 0, .int 0, .int 0, .int 1])), (x41, .inr (6, [.ref x42])), (x42, .inl (ty 1, 6, .inr (.inl (fun _ => 0)))), (x43, .inr (6, [.ref x44])), (x44, .inl (ty 1, 6, .inr (.inl (fun _ => 0))))] H := hP
        have hD : va_D A [(x20, .inr (14, [.ref x1, .ref x8, .ref x21, .ref x28, .ref x35, .int 0, .ref x36, .ref x37, .ref x38, .int 0, .int 0, .int 0, .int 0, .int 0, .int 0, .int 0, .int 1])), (x41, .inr (6, [.ref x42])), (x42, .inl (ty 1, 6, .inr (.inl (fun _ => 0)))), (x43, .inr (6, [.ref x44])), (x44, .inl (ty 1, 6, .inr (.inl (fun _ => 0))))] := hD
        exact ih (i + 1) (by omega) (by omega) _ _ (hP.sub [1, 2, 3, 4, 0] rfl) (hD.sub [1, 2, 3, 4, 0] (by decide) rfl) hS _ (lv_sub hl [0, 1, 2, 3] rfl)
  exact LOOP 385 0 (by omega) (by omega) _ _ hP hD hS _ hl
def vs_a_X9_prepare_0 : List Cond := .code yX9_prepare cX9_prepare 3 none :: ([.fieldLink RX9 42 "AnswerFold$Solver" "isCompiled" "Z", .methodLink RX9 46 yX9_compile, .instanceMethod yX9_compile, .selects RX9 yX9_compile yX9_compile, .initialized RX9, .methodLink RX9 49 yX9_fitAssumptions, .instanceMethod yX9_fitAssumptions, .selects RX9 yX9_fitAssumptions yX9_fitAssumptions] ++ (u_ws RX9 TX9 17 ++ (vs_a_X9_compile_0 ++ (vs_a_X9_fitAssumptions_0))))
theorem iv_a_X9_prepare_0_X9 : ∀ w ∈ u_ws RX9 TX9 17, w ∈ vs_a_X9_prepare_0 := (fun _ h => List.mem_cons_of_mem _ (List.mem_append_right _ (List.mem_append_left _ h)))
set_option maxRecDepth 20000 in
theorem gv_a_X9_prepare_0_0 : GoodIn vs_a_X9_prepare_0 (wsV RX9 46 RX9 yX9_compile vs_a_X9_compile_0) := goodIn_app (goodIn_sub (by decide +kernel) (by decide +kernel)) (goodIn_sub (fun _ h => List.mem_cons_of_mem _ (List.mem_append_right _ (List.mem_append_right _ (List.mem_append_left _ h)))) (by decide +kernel))
set_option maxRecDepth 20000 in
theorem gv_a_X9_prepare_0_1 : GoodIn vs_a_X9_prepare_0 (wsV RX9 49 RX9 yX9_fitAssumptions vs_a_X9_fitAssumptions_0) := goodIn_app (goodIn_sub (by decide +kernel) (by decide +kernel)) (goodIn_sub (fun _ h => List.mem_cons_of_mem _ (List.mem_append_right _ (List.mem_append_right _ (List.mem_append_right _ (h))))) (by decide +kernel))
set_option maxHeartbeats 4000000 in
set_option maxRecDepth 100000 in
theorem a_X9_prepare_0 (l : Launch) (D : va_G) (ty : Nat → ClassId) (td mi sz : Nat) (x20 : Nat) (x1 : Nat) (x8 : Nat) (x21 : Nat) (x28 : Nat) (x35 : Nat) (x36 : Nat) (x37 : Nat) (x38 : Nat) (x22 : Nat) (x23 : Nat) (x24 : Nat) (x25 : Nat) (x26 : Nat) (x27 : Nat) (x29 : Nat) (x30 : Nat) (x31 : Nat) (x32 : Nat) (x33 : Nat) (x34 : Nat) (x41 : Nat) (x42 : Nat) (x43 : Nat) (x44 : Nat) (x2 : Nat) (x3 : Nat) (x4 : Nat) (x5 : Nat) (x6 : Nat) (x7 : Nat) (x9 : Nat) (x10 : Nat) (x12 : Nat) (x14 : Nat) (x15 : Nat) (x16 : Nat) (x17 : Nat) (x18 : Nat) (x19 : Nat) (x11 : Nat) : Met l yX9_prepare vs_a_X9_prepare_0 { frames := 3, cells := 0, slots := 0, locals := 64 } (va_Pc [.ref x20, .ref x41, .ref x43] (wq_P D ty td mi [(x20, .inr (14, [.ref x1, .ref x8, .ref x21, .ref x28, .ref x35, .int 0, .ref x36, .ref x37, .ref x38, .int 0, .int 0, .int 0, .int 0, .int 0, .int 0, .int 0, .int 0])), (x21, .inr (12, [.ref x22, .ref x23, .ref x24, .ref x25, .ref x26, .ref x27, .int 0])), (x28, .inr (12, [.ref x29, .ref x30, .ref x31, .ref x32, .ref x33, .ref x34, .int 0])), (x36, .inl (ty 0, 6, .inl (fun _ => 0))), (x37, .inl (ty 0, 6, .inl (fun _ => 0))), (x41, .inr (6, [.ref x42])), (x42, .inl (ty 1, 6, .inr (.inl (fun _ => 0)))), (x43, .inr (6, [.ref x44])), (x44, .inl (ty 1, 6, .inr (.inl (fun _ => 0)))), (x1, .inr (11, [.ref x2, .int 0, .ref x3, .int 0, .ref x4, .ref x5, .int 1, .ref x6, .ref x7, .int 0])), (x8, .inr (8, [.ref x1, .ref x9, .ref x10, .ref x12, .ref x14, .int 0, .ref x15, .ref x16, .ref x17, .int 0, .ref x18, .ref x19, .int 0, .int 1, .int 2, .int 0])), (x10, .inr (6, [.ref x11])), (x11, .inl (ty 1, 6, .inr (.inl (fun _ => 0))))] sz)) (va_Qv (fun u : va_W => ((u = [(x21, .inr (12, [.ref x22, .ref x23, .ref x24, .ref x25, .ref x26, .ref x27, .int 0])), (x28, .inr (12, [.ref x29, .ref x30, .ref x31, .ref x32, .ref x33, .ref x34, .int 0])), (x36, .inl (ty 0, 6, .inl (fun _ => 0))), (x37, .inl (ty 0, 6, .inl (fun _ => 0))), (x8, .inr (8, [.ref x1, .ref x9, .ref x10, .ref x12, .ref x14, .int 0, .ref x15, .ref x16, .ref x17, .int 0, .ref x18, .ref x19, .int 0, .int 1, .int 2, .int 0])), (x10, .inr (6, [.ref x11])), (x11, .inl (ty 1, 6, .inr (.inl (fun _ => 0)))), (x1, .inr (11, [.ref x2, .int 0, .ref x3, .int 0, .ref x4, .ref x5, .int 1, .ref x6, .ref x7, .int 0])), (x41, .inr (6, [.ref x42])), (x42, .inl (ty 1, 6, .inr (.inl (fun _ => 0)))), (x43, .inr (6, [.ref x44])), (x44, .inl (ty 1, 6, .inr (.inl (fun _ => 0)))), (x20, .inr (14, [.ref x1, .ref x8, .ref x21, .ref x28, .ref x35, .int 0, .ref x36, .ref x37, .ref x38, .int 0, .int 0, .int 0, .int 0, .int 0, .int 0, .int 0, .int 1]))]))) (wq_B D (va_A [(x20, .inr (14, [.ref x1, .ref x8, .ref x21, .ref x28, .ref x35, .int 0, .ref x36, .ref x37, .ref x38, .int 0, .int 0, .int 0, .int 0, .int 0, .int 0, .int 0, .int 0])), (x21, .inr (12, [.ref x22, .ref x23, .ref x24, .ref x25, .ref x26, .ref x27, .int 0])), (x28, .inr (12, [.ref x29, .ref x30, .ref x31, .ref x32, .ref x33, .ref x34, .int 0])), (x36, .inl (ty 0, 6, .inl (fun _ => 0))), (x37, .inl (ty 0, 6, .inl (fun _ => 0))), (x41, .inr (6, [.ref x42])), (x42, .inl (ty 1, 6, .inr (.inl (fun _ => 0)))), (x43, .inr (6, [.ref x44])), (x44, .inl (ty 1, 6, .inr (.inl (fun _ => 0)))), (x1, .inr (11, [.ref x2, .int 0, .ref x3, .int 0, .ref x4, .ref x5, .int 1, .ref x6, .ref x7, .int 0])), (x8, .inr (8, [.ref x1, .ref x9, .ref x10, .ref x12, .ref x14, .int 0, .ref x15, .ref x16, .ref x17, .int 0, .ref x18, .ref x19, .int 0, .int 1, .int 2, .int 0])), (x10, .inr (6, [.ref x11])), (x11, .inl (ty 1, 6, .inr (.inl (fun _ => 0))))] sz)) (va_A [(x20, .inr (14, [.ref x1, .ref x8, .ref x21, .ref x28, .ref x35, .int 0, .ref x36, .ref x37, .ref x38, .int 0, .int 0, .int 0, .int 0, .int 0, .int 0, .int 0, .int 0])), (x21, .inr (12, [.ref x22, .ref x23, .ref x24, .ref x25, .ref x26, .ref x27, .int 0])), (x28, .inr (12, [.ref x29, .ref x30, .ref x31, .ref x32, .ref x33, .ref x34, .int 0])), (x36, .inl (ty 0, 6, .inl (fun _ => 0))), (x37, .inl (ty 0, 6, .inl (fun _ => 0))), (x41, .inr (6, [.ref x42])), (x42, .inl (ty 1, 6, .inr (.inl (fun _ => 0)))), (x43, .inr (6, [.ref x44])), (x44, .inl (ty 1, 6, .inr (.inl (fun _ => 0)))), (x1, .inr (11, [.ref x2, .int 0, .ref x3, .int 0, .ref x4, .ref x5, .int 1, .ref x6, .ref x7, .int 0])), (x8, .inr (8, [.ref x1, .ref x9, .ref x10, .ref x12, .ref x14, .int 0, .ref x15, .ref x16, .ref x17, .int 0, .ref x18, .ref x19, .int 0, .int 1, .int 2, .int 0])), (x10, .inr (6, [.ref x11])), (x11, .inl (ty 1, 6, .inr (.inl (fun _ => 0))))] sz)) 0 0 (va_A [(x20, .inr (14, [.ref x1, .ref x8, .ref x21, .ref x28, .ref x35, .int 0, .ref x36, .ref x37, .ref x38, .int 0, .int 0, .int 0, .int 0, .int 0, .int 0, .int 0, .int 0])), (x21, .inr (12, [.ref x22, .ref x23, .ref x24, .ref x25, .ref x26, .ref x27, .int 0])), (x28, .inr (12, [.ref x29, .ref x30, .ref x31, .ref x32, .ref x33, .ref x34, .int 0])), (x36, .inl (ty 0, 6, .inl (fun _ => 0))), (x37, .inl (ty 0, 6, .inl (fun _ => 0))), (x41, .inr (6, [.ref x42])), (x42, .inl (ty 1, 6, .inr (.inl (fun _ => 0)))), (x43, .inr (6, [.ref x44])), (x44, .inl (ty 1, 6, .inr (.inl (fun _ => 0)))), (x1, .inr (11, [.ref x2, .int 0, .ref x3, .int 0, .ref x4, .ref x5, .int 1, .ref x6, .ref x7, .int 0])), (x8, .inr (8, [.ref x1, .ref x9, .ref x10, .ref x12, .ref x14, .int 0, .ref x15, .ref x16, .ref x17, .int 0, .ref x18, .ref x19, .int 0, .int 1, .int 2, .int 0])), (x10, .inr (6, [.ref x11])), (x11, .inl (ty 1, 6, .inr (.inl (fun _ => 0))))] sz) := by
  refine Met.ofW (cc := cX9_prepare) (maxL := 3) (ret := none) (by decide) rfl ?_
  intro p e s m args below meth c s₁ B hml hv
  obtain ⟨rfl, hsz, hP, hK, hD0, hE⟩ := hv
  have hx := B.exec
  have hb := B.bytes
  have hr := B.returns
  have hts := atoms_spec (ws := vs_a_X9_prepare_0) B.pre
  have hown : s.vm.findClass RX9 = some m.cls := findClass_of_methodNamed B.named
  have hlocks := B.notSynchronized
  subst hsz
  have hD := hD0.self (sz := s.heap.size)
  generalize hAe : va_A [(x20, .inr (14, [.ref x1, .ref x8, .ref x21, .ref x28, .ref x35, .int 0, .ref x36, .ref x37, .ref x38, .int 0, .int 0, .int 0, .int 0, .int 0, .int 0, .int 0, .int 0])), (x21, .inr (12, [.ref x22, .ref x23, .ref x24, .ref x25, .ref x26, .ref x27, .int 0])), (x28, .inr (12, [.ref x29, .ref x30, .ref x31, .ref x32, .ref x33, .ref x34, .int 0])), (x36, .inl (ty 0, 6, .inl (fun _ => 0))), (x37, .inl (ty 0, 6, .inl (fun _ => 0))), (x41, .inr (6, [.ref x42])), (x42, .inl (ty 1, 6, .inr (.inl (fun _ => 0)))), (x43, .inr (6, [.ref x44])), (x44, .inl (ty 1, 6, .inr (.inl (fun _ => 0)))), (x1, .inr (11, [.ref x2, .int 0, .ref x3, .int 0, .ref x4, .ref x5, .int 1, .ref x6, .ref x7, .int 0])), (x8, .inr (8, [.ref x1, .ref x9, .ref x10, .ref x12, .ref x14, .int 0, .ref x15, .ref x16, .ref x17, .int 0, .ref x18, .ref x19, .int 0, .int 1, .int 2, .int 0])), (x10, .inr (6, [.ref x11])), (x11, .inl (ty 1, 6, .inr (.inl (fun _ => 0))))] s.heap.size = A at hD hE ⊢
  have hA : ∀ q : Nat, s.heap.size ≤ q → A q := fun q h => by rw [← hAe]; exact Or.inr h
  have hS : va_S A s.heap s.heap [] := va_S.rf
  have hP : va_P D vwCl [(x20, .inr (14, [.ref x1, .ref x8, .ref x21, .ref x28, .ref x35, .int 0, .ref x36, .ref x37, .ref x38, .int 0, .int 0, .int 0, .int 0, .int 0, .int 0, .int 0, .int 0])), (x21, .inr (12, [.ref x22, .ref x23, .ref x24, .ref x25, .ref x26, .ref x27, .int 0])), (x28, .inr (12, [.ref x29, .ref x30, .ref x31, .ref x32, .ref x33, .ref x34, .int 0])), (x36, .inl (ty 0, 6, .inl (fun _ => 0))), (x37, .inl (ty 0, 6, .inl (fun _ => 0))), (x41, .inr (6, [.ref x42])), (x42, .inl (ty 1, 6, .inr (.inl (fun _ => 0)))), (x43, .inr (6, [.ref x44])), (x44, .inl (ty 1, 6, .inr (.inl (fun _ => 0)))), (x1, .inr (11, [.ref x2, .int 0, .ref x3, .int 0, .ref x4, .ref x5, .int 1, .ref x6, .ref x7, .int 0])), (x8, .inr (8, [.ref x1, .ref x9, .ref x10, .ref x12, .ref x14, .int 0, .ref x15, .ref x16, .ref x17, .int 0, .ref x18, .ref x19, .int 0, .int 1, .int 2, .int 0])), (x10, .inr (6, [.ref x11])), (x11, .inl (ty 1, 6, .inr (.inl (fun _ => 0))))] s.heap := hP
  have hl := lv_entry ([.ref x20, .ref x41, .ref x43]) (n := 3) (Nat.le_of_ble_eq_true rfl)
  rw [lg_entry_eq]
  generalize (lg_sl ([.ref x20, .ref x41, .ref x43]) ++ List.replicate (3 - (lg_sl ([.ref x20, .ref x41, .ref x43])).length) Slot.unset).toArray = ls at hl ⊢
  have hl : lv_has ls 3 [(0, .ref x20), (1, .ref x41), (2, .ref x43)] := hl
  refine lv_aload_n hx hb dX9_prepare_0 rfl (lv_at hl 0 rfl) ?_
  refine va_get (D := D) (ci := 14) (v := .int 0) (C := RX9) (T := TX9) (N := 17) hx hb hts iv_a_X9_prepare_0_X9 hown hK hP 0 rfl rfl 16 (by decide) (hts (.fieldLink RX9 42 "AnswerFold$Solver" "isCompiled" "Z") (by decide +kernel)) (fun _ h9 => h9) rfl dX9_prepare_1 ?_
  refine lv_if_ne (tgt := 16) hx hb dX9_prepare_4 (by decide) (fun c0 => absurd (by decide) c0) (fun _ => ?_)
  refine lv_aload_n hx hb dX9_prepare_7 rfl (lv_at hl 0 rfl) ?_
  refine wq_v (wc := [(x20, .inr (14, [.ref x1, .ref x8, .ref x21, .ref x28, .ref x35, .int 0, .ref x36, .ref x37, .ref x38, .int 0, .int 0, .int 0, .int 0, .int 0, .int 0, .int 0, .int 0])), (x21, .inr (12, [.ref x22, .ref x23, .ref x24, .ref x25, .ref x26, .ref x27, .int 0])), (x28, .inr (12, [.ref x29, .ref x30, .ref x31, .ref x32, .ref x33, .ref x34, .int 0])), (x36, .inl (ty 0, 6, .inl (fun _ => 0))), (x37, .inl (ty 0, 6, .inl (fun _ => 0))), (x1, .inr (11, [.ref x2, .int 0, .ref x3, .int 0, .ref x4, .ref x5, .int 1, .ref x6, .ref x7, .int 0])), (x8, .inr (8, [.ref x1, .ref x9, .ref x10, .ref x12, .ref x14, .int 0, .ref x15, .ref x16, .ref x17, .int 0, .ref x18, .ref x19, .int 0, .int 1, .int 2, .int 0])), (x10, .inr (6, [.ref x11])), (x11, .inl (ty 1, 6, .inr (.inl (fun _ => 0))))]) (wr := [(x41, .inr (6, [.ref x42])), (x42, .inl (ty 1, 6, .inr (.inl (fun _ => 0)))), (x43, .inr (6, [.ref x44])), (x44, .inl (ty 1, 6, .inr (.inl (fun _ => 0))))]) (va_runV (As := []) (rest := []) ⟨hx, hb, hml, hown, hts⟩ (a_X9_compile_0 l D ty td mi s.heap.size x20 x1 x8 x21 x28 x35 x36 x37 x38 x22 x23 x24 x25 x26 x27 x29 x30 x31 x32 x33 x34 x2 x3 x4 x5 x6 x7 x9 x10 x12 x14 x15 x16 x17 x18 x19 x11) (cwV 0 hts gv_a_X9_prepare_0_0 rfl rfl rfl (by decide +kernel) ⟨(Nat.le_of_ble_eq_true rfl), (Nat.le_of_ble_eq_true rfl)⟩) (wq_preV hP hD hK hE hS hA [0, 1, 2, 3, 4, 9, 10, 11, 12] rfl (by decide) 0 14 rfl rfl) rfl rfl hl.1 rfl (lv_room (Nat.le_of_ble_eq_true rfl)) dX9_prepare_8 ⟨(Nat.le_of_ble_eq_true rfl), (Nat.le_of_ble_eq_true rfl)⟩) hS hA hP hD [0, 1, 2, 3, 4, 9, 10, 11, 12] [5, 6, 7, 8] rfl rfl (by decide) (by decide) (fun u H locs hw hP hD hS => ?_)
  obtain rfl := hw
  have hP : va_P D vwCl [(x41, .inr (6, [.ref x42])), (x42, .inl (ty 1, 6, .inr (.inl (fun _ => 0)))), (x43, .inr (6, [.ref x44])), (x44, .inl (ty 1, 6, .inr (.inl (fun _ => 0)))), (x21, .inr (12, [.ref x22, .ref x23, .ref x24, .ref x25, .ref x26, .ref x27, .int 0])), (x28, .inr (12, [.ref x29, .ref x30, .ref x31, .ref x32, .ref x33, .ref x34, .int 0])), (x36, .inl (ty 0, 6, .inl (fun _ => 0))), (x37, .inl (ty 0, 6, .inl (fun _ => 0))), (x8, .inr (8, [.ref x1, .ref x9, .ref x10, .ref x12, .ref x14, .int 0, .ref x15, .ref x16, .ref x17, .int 0, .ref x18, .ref x19, .int 0, .int 1, .int 2, .int 0])), (x10, .inr (6, [.ref x11])), (x11, .inl (ty 1, 6, .inr (.inl (fun _ => 0)))), (x20, .inr (14, [.ref x1, .ref x8, .ref x21, .ref x28, .ref x35, .int 0, .ref x36, .ref x37, .ref x38, .int 0, .int 0, .int 0, .int 0, .int 0, .int 0, .int 0, .int 0])), (x1, .inr (11, [.ref x2, .int 0, .ref x3, .int 0, .ref x4, .ref x5, .int 1, .ref x6, .ref x7, .int 0]))] H := hP
  have hD : va_D A [(x41, .inr (6, [.ref x42])), (x42, .inl (ty 1, 6, .inr (.inl (fun _ => 0)))), (x43, .inr (6, [.ref x44])), (x44, .inl (ty 1, 6, .inr (.inl (fun _ => 0)))), (x21, .inr (12, [.ref x22, .ref x23, .ref x24, .ref x25, .ref x26, .ref x27, .int 0])), (x28, .inr (12, [.ref x29, .ref x30, .ref x31, .ref x32, .ref x33, .ref x34, .int 0])), (x36, .inl (ty 0, 6, .inl (fun _ => 0))), (x37, .inl (ty 0, 6, .inl (fun _ => 0))), (x8, .inr (8, [.ref x1, .ref x9, .ref x10, .ref x12, .ref x14, .int 0, .ref x15, .ref x16, .ref x17, .int 0, .ref x18, .ref x19, .int 0, .int 1, .int 2, .int 0])), (x10, .inr (6, [.ref x11])), (x11, .inl (ty 1, 6, .inr (.inl (fun _ => 0)))), (x20, .inr (14, [.ref x1, .ref x8, .ref x21, .ref x28, .ref x35, .int 0, .ref x36, .ref x37, .ref x38, .int 0, .int 0, .int 0, .int 0, .int 0, .int 0, .int 0, .int 0])), (x1, .inr (11, [.ref x2, .int 0, .ref x3, .int 0, .ref x4, .ref x5, .int 1, .ref x6, .ref x7, .int 0]))] := hD
  refine W.widen (k := 0) (n := 0) (Nat.le_of_ble_eq_true rfl) (Nat.le_of_ble_eq_true rfl) ?_
  refine lv_aload_n hx hb dX9_prepare_11 rfl (lv_at hl 0 rfl) ?_
  refine lv_iconst (v := 1) hx hb dX9_prepare_12 (by decide) ?_
  refine va_put (D := D) (ci := 14) (v := .int 1) (ty := tyX9 16) (C := RX9) (T := TX9) (N := 17) hx hb hts iv_a_X9_prepare_0_X9 tyX9 tyX9_ok nmX9 hown hK hP hD hS 11 rfl rfl 16 (by decide) (hts (.fieldLink RX9 42 "AnswerFold$Solver" "isCompiled" "Z") (by decide +kernel)) (fun _ h9 => h9) rfl (by decide +kernel) rfl rfl (Nat.le_of_ble_eq_true rfl) dX9_prepare_13 (fun H locs hP hD hS => ?_)
  have hP : va_P D vwCl [(x41, .inr (6, [.ref x42])), (x42, .inl (ty 1, 6, .inr (.inl (fun _ => 0)))), (x43, .inr (6, [.ref x44])), (x44, .inl (ty 1, 6, .inr (.inl (fun _ => 0)))), (x21, .inr (12, [.ref x22, .ref x23, .ref x24, .ref x25, .ref x26, .ref x27, .int 0])), (x28, .inr (12, [.ref x29, .ref x30, .ref x31, .ref x32, .ref x33, .ref x34, .int 0])), (x36, .inl (ty 0, 6, .inl (fun _ => 0))), (x37, .inl (ty 0, 6, .inl (fun _ => 0))), (x8, .inr (8, [.ref x1, .ref x9, .ref x10, .ref x12, .ref x14, .int 0, .ref x15, .ref x16, .ref x17, .int 0, .ref x18, .ref x19, .int 0, .int 1, .int 2, .int 0])), (x10, .inr (6, [.ref x11])), (x11, .inl (ty 1, 6, .inr (.inl (fun _ => 0)))), (x20, .inr (14, [.ref x1, .ref x8, .ref x21, .ref x28, .ref x35, .int 0, .ref x36, .ref x37, .ref x38, .int 0, .int 0, .int 0, .int 0, .int 0, .int 0, .int 0, .int 1])), (x1, .inr (11, [.ref x2, .int 0, .ref x3, .int 0, .ref x4, .ref x5, .int 1, .ref x6, .ref x7, .int 0]))] H := hP
  have hD : va_D A [(x41, .inr (6, [.ref x42])), (x42, .inl (ty 1, 6, .inr (.inl (fun _ => 0)))), (x43, .inr (6, [.ref x44])), (x44, .inl (ty 1, 6, .inr (.inl (fun _ => 0)))), (x21, .inr (12, [.ref x22, .ref x23, .ref x24, .ref x25, .ref x26, .ref x27, .int 0])), (x28, .inr (12, [.ref x29, .ref x30, .ref x31, .ref x32, .ref x33, .ref x34, .int 0])), (x36, .inl (ty 0, 6, .inl (fun _ => 0))), (x37, .inl (ty 0, 6, .inl (fun _ => 0))), (x8, .inr (8, [.ref x1, .ref x9, .ref x10, .ref x12, .ref x14, .int 0, .ref x15, .ref x16, .ref x17, .int 0, .ref x18, .ref x19, .int 0, .int 1, .int 2, .int 0])), (x10, .inr (6, [.ref x11])), (x11, .inl (ty 1, 6, .inr (.inl (fun _ => 0)))), (x20, .inr (14, [.ref x1, .ref x8, .ref x21, .ref x28, .ref x35, .int 0, .ref x36, .ref x37, .ref x38, .int 0, .int 0, .int 0, .int 0, .int 0, .int 0, .int 0, .int 1])), (x1, .inr (11, [.ref x2, .int 0, .ref x3, .int 0, .ref x4, .ref x5, .int 1, .ref x6, .ref x7, .int 0]))] := hD
  refine lv_aload_n hx hb dX9_prepare_16 rfl (lv_at hl 0 rfl) ?_
  refine lv_aload_n hx hb dX9_prepare_17 rfl (lv_at hl 1 rfl) ?_
  refine lv_aload_n hx hb dX9_prepare_18 rfl (lv_at hl 2 rfl) ?_
  refine wq_v (wc := [(x41, .inr (6, [.ref x42])), (x42, .inl (ty 1, 6, .inr (.inl (fun _ => 0)))), (x43, .inr (6, [.ref x44])), (x44, .inl (ty 1, 6, .inr (.inl (fun _ => 0)))), (x20, .inr (14, [.ref x1, .ref x8, .ref x21, .ref x28, .ref x35, .int 0, .ref x36, .ref x37, .ref x38, .int 0, .int 0, .int 0, .int 0, .int 0, .int 0, .int 0, .int 1]))]) (wr := [(x21, .inr (12, [.ref x22, .ref x23, .ref x24, .ref x25, .ref x26, .ref x27, .int 0])), (x28, .inr (12, [.ref x29, .ref x30, .ref x31, .ref x32, .ref x33, .ref x34, .int 0])), (x36, .inl (ty 0, 6, .inl (fun _ => 0))), (x37, .inl (ty 0, 6, .inl (fun _ => 0))), (x8, .inr (8, [.ref x1, .ref x9, .ref x10, .ref x12, .ref x14, .int 0, .ref x15, .ref x16, .ref x17, .int 0, .ref x18, .ref x19, .int 0, .int 1, .int 2, .int 0])), (x10, .inr (6, [.ref x11])), (x11, .inl (ty 1, 6, .inr (.inl (fun _ => 0)))), (x1, .inr (11, [.ref x2, .int 0, .ref x3, .int 0, .ref x4, .ref x5, .int 1, .ref x6, .ref x7, .int 0]))]) (va_runV (As := [.ref x41, .ref x43]) (rest := []) ⟨hx, hb, hml, hown, hts⟩ (a_X9_fitAssumptions_0 l D ty td mi H.size x41 x42 x43 x44 x20 x1 x8 x21 x28 x35 x36 x37 x38) (cwV 2 hts gv_a_X9_prepare_0_1 rfl rfl rfl (by decide +kernel) ⟨(Nat.le_of_ble_eq_true rfl), (Nat.le_of_ble_eq_true rfl)⟩) (wq_preV hP hD hK hE hS hA [0, 1, 2, 3, 11] rfl (by decide) 11 14 rfl rfl) rfl rfl hl.1 rfl (lv_room (Nat.le_of_ble_eq_true rfl)) dX9_prepare_19 ⟨(Nat.le_of_ble_eq_true rfl), (Nat.le_of_ble_eq_true rfl)⟩) hS hA hP hD [0, 1, 2, 3, 11] [4, 5, 6, 7, 8, 9, 10, 12] rfl rfl (by decide) (by decide) (fun u H locs hw hP hD hS => ?_)
  obtain rfl := hw
  have hP : va_P D vwCl [(x21, .inr (12, [.ref x22, .ref x23, .ref x24, .ref x25, .ref x26, .ref x27, .int 0])), (x28, .inr (12, [.ref x29, .ref x30, .ref x31, .ref x32, .ref x33, .ref x34, .int 0])), (x36, .inl (ty 0, 6, .inl (fun _ => 0))), (x37, .inl (ty 0, 6, .inl (fun _ => 0))), (x8, .inr (8, [.ref x1, .ref x9, .ref x10, .ref x12, .ref x14, .int 0, .ref x15, .ref x16, .ref x17, .int 0, .ref x18, .ref x19, .int 0, .int 1, .int 2, .int 0])), (x10, .inr (6, [.ref x11])), (x11, .inl (ty 1, 6, .inr (.inl (fun _ => 0)))), (x1, .inr (11, [.ref x2, .int 0, .ref x3, .int 0, .ref x4, .ref x5, .int 1, .ref x6, .ref x7, .int 0])), (x41, .inr (6, [.ref x42])), (x42, .inl (ty 1, 6, .inr (.inl (fun _ => 0)))), (x43, .inr (6, [.ref x44])), (x44, .inl (ty 1, 6, .inr (.inl (fun _ => 0)))), (x20, .inr (14, [.ref x1, .ref x8, .ref x21, .ref x28, .ref x35, .int 0, .ref x36, .ref x37, .ref x38, .int 0, .int 0, .int 0, .int 0, .int 0, .int 0, .int 0, .int 1]))] H := hP
  have hD : va_D A [(x21, .inr (12, [.ref x22, .ref x23, .ref x24, .ref x25, .ref x26, .ref x27, .int 0])), (x28, .inr (12, [.ref x29, .ref x30, .ref x31, .ref x32, .ref x33, .ref x34, .int 0])), (x36, .inl (ty 0, 6, .inl (fun _ => 0))), (x37, .inl (ty 0, 6, .inl (fun _ => 0))), (x8, .inr (8, [.ref x1, .ref x9, .ref x10, .ref x12, .ref x14, .int 0, .ref x15, .ref x16, .ref x17, .int 0, .ref x18, .ref x19, .int 0, .int 1, .int 2, .int 0])), (x10, .inr (6, [.ref x11])), (x11, .inl (ty 1, 6, .inr (.inl (fun _ => 0)))), (x1, .inr (11, [.ref x2, .int 0, .ref x3, .int 0, .ref x4, .ref x5, .int 1, .ref x6, .ref x7, .int 0])), (x41, .inr (6, [.ref x42])), (x42, .inl (ty 1, 6, .inr (.inl (fun _ => 0)))), (x43, .inr (6, [.ref x44])), (x44, .inl (ty 1, 6, .inr (.inl (fun _ => 0)))), (x20, .inr (14, [.ref x1, .ref x8, .ref x21, .ref x28, .ref x35, .int 0, .ref x36, .ref x37, .ref x38, .int 0, .int 0, .int 0, .int 0, .int 0, .int 0, .int 0, .int 1]))] := hD
  refine W.widen (k := 0) (n := 0) (Nat.le_of_ble_eq_true rfl) (Nat.le_of_ble_eq_true rfl) ?_
  have hP9 := hP.sub (ws' := [(x21, .inr (12, [.ref x22, .ref x23, .ref x24, .ref x25, .ref x26, .ref x27, .int 0])), (x28, .inr (12, [.ref x29, .ref x30, .ref x31, .ref x32, .ref x33, .ref x34, .int 0])), (x36, .inl (ty 0, 6, .inl (fun _ => 0))), (x37, .inl (ty 0, 6, .inl (fun _ => 0))), (x8, .inr (8, [.ref x1, .ref x9, .ref x10, .ref x12, .ref x14, .int 0, .ref x15, .ref x16, .ref x17, .int 0, .ref x18, .ref x19, .int 0, .int 1, .int 2, .int 0])), (x10, .inr (6, [.ref x11])), (x11, .inl (ty 1, 6, .inr (.inl (fun _ => 0)))), (x1, .inr (11, [.ref x2, .int 0, .ref x3, .int 0, .ref x4, .ref x5, .int 1, .ref x6, .ref x7, .int 0])), (x41, .inr (6, [.ref x42])), (x42, .inl (ty 1, 6, .inr (.inl (fun _ => 0)))), (x43, .inr (6, [.ref x44])), (x44, .inl (ty 1, 6, .inr (.inl (fun _ => 0)))), (x20, .inr (14, [.ref x1, .ref x8, .ref x21, .ref x28, .ref x35, .int 0, .ref x36, .ref x37, .ref x38, .int 0, .int 0, .int 0, .int 0, .int 0, .int 0, .int 0, .int 1]))]) [0, 1, 2, 3, 4, 5, 6, 7, 8, 9, 10, 11, 12] rfl
  have hD9 := hD.sub (ws' := [(x21, .inr (12, [.ref x22, .ref x23, .ref x24, .ref x25, .ref x26, .ref x27, .int 0])), (x28, .inr (12, [.ref x29, .ref x30, .ref x31, .ref x32, .ref x33, .ref x34, .int 0])), (x36, .inl (ty 0, 6, .inl (fun _ => 0))), (x37, .inl (ty 0, 6, .inl (fun _ => 0))), (x8, .inr (8, [.ref x1, .ref x9, .ref x10, .ref x12, .ref x14, .int 0, .ref x15, .ref x16, .ref x17, .int 0, .ref x18, .ref x19, .int 0, .int 1, .int 2, .int 0])), (x10, .inr (6, [.ref x11])), (x11, .inl (ty 1, 6, .inr (.inl (fun _ => 0)))), (x1, .inr (11, [.ref x2, .int 0, .ref x3, .int 0, .ref x4, .ref x5, .int 1, .ref x6, .ref x7, .int 0])), (x41, .inr (6, [.ref x42])), (x42, .inl (ty 1, 6, .inr (.inl (fun _ => 0)))), (x43, .inr (6, [.ref x44])), (x44, .inl (ty 1, 6, .inr (.inl (fun _ => 0)))), (x20, .inr (14, [.ref x1, .ref x8, .ref x21, .ref x28, .ref x35, .int 0, .ref x36, .ref x37, .ref x38, .int 0, .int 0, .int 0, .int 0, .int 0, .int 0, .int 0, .int 1]))]) [0, 1, 2, 3, 4, 5, 6, 7, 8, 9, 10, 11, 12] (by decide) rfl
  refine W.widen (k := 0) (n := 0) (Nat.le_of_ble_eq_true rfl) (Nat.le_of_ble_eq_true rfl) ?_
  exact W.vret hx hb hr (fun t ht hW => ⟨⟨[(x21, .inr (12, [.ref x22, .ref x23, .ref x24, .ref x25, .ref x26, .ref x27, .int 0])), (x28, .inr (12, [.ref x29, .ref x30, .ref x31, .ref x32, .ref x33, .ref x34, .int 0])), (x36, .inl (ty 0, 6, .inl (fun _ => 0))), (x37, .inl (ty 0, 6, .inl (fun _ => 0))), (x8, .inr (8, [.ref x1, .ref x9, .ref x10, .ref x12, .ref x14, .int 0, .ref x15, .ref x16, .ref x17, .int 0, .ref x18, .ref x19, .int 0, .int 1, .int 2, .int 0])), (x10, .inr (6, [.ref x11])), (x11, .inl (ty 1, 6, .inr (.inl (fun _ => 0)))), (x1, .inr (11, [.ref x2, .int 0, .ref x3, .int 0, .ref x4, .ref x5, .int 1, .ref x6, .ref x7, .int 0])), (x41, .inr (6, [.ref x42])), (x42, .inl (ty 1, 6, .inr (.inl (fun _ => 0)))), (x43, .inr (6, [.ref x44])), (x44, .inl (ty 1, 6, .inr (.inl (fun _ => 0)))), (x20, .inr (14, [.ref x1, .ref x8, .ref x21, .ref x28, .ref x35, .int 0, .ref x36, .ref x37, .ref x38, .int 0, .int 0, .int 0, .int 0, .int 0, .int 0, .int 0, .int 1]))], rfl, rfl, wq_B.of ht hP9 hD9⟩, hS.F ht⟩) hS.2.2 dX9_prepare_22
def vs_a_X9_fullSet_0 : List Cond := .code yX9_fullSet cX9_fullSet 1 (some .int) :: ([.fieldLink RX9 38 "AnswerFold$Solver" "grounding" "LAnswerFold$Grounding;", .methodLink RX9 209 Lib.Math.min.name, .static Lib.Math.min.name, .initialized "java/lang/Math", .code Lib.Math.min.name Lib.Math.min.code 2 (some .int)] ++ (u_ws RX9 TX9 17 ++ (u_ws RX3 TX3 16)))
theorem iv_a_X9_fullSet_0_X3 : ∀ w ∈ u_ws RX3 TX3 16, w ∈ vs_a_X9_fullSet_0 := (fun _ h => List.mem_cons_of_mem _ (List.mem_append_right _ (List.mem_append_right _ (h))))
theorem iv_a_X9_fullSet_0_X9 : ∀ w ∈ u_ws RX9 TX9 17, w ∈ vs_a_X9_fullSet_0 := (fun _ h => List.mem_cons_of_mem _ (List.mem_append_right _ (List.mem_append_left _ h)))
set_option maxHeartbeats 4000000 in
set_option maxRecDepth 100000 in
theorem a_X9_fullSet_0 (l : Launch) (D : va_G) (ty : Nat → ClassId) (td mi sz : Nat) (x8 : Nat) (x1 : Nat) (x9 : Nat) (x10 : Nat) (x12 : Nat) (x14 : Nat) (x15 : Nat) (x16 : Nat) (x17 : Nat) (x18 : Nat) (x19 : Nat) (x20 : Nat) (x21 : Nat) (x28 : Nat) (x35 : Nat) (x36 : Nat) (x37 : Nat) (x38 : Nat) : Met l yX9_fullSet vs_a_X9_fullSet_0 { frames := 1, cells := 0, slots := 0, locals := 14 } (va_Pc [.ref x20] (wq_P D ty td mi [(x8, .inr (8, [.ref x1, .ref x9, .ref x10, .ref x12, .ref x14, .int 0, .ref x15, .ref x16, .ref x17, .int 0, .ref x18, .ref x19, .int 0, .int 1, .int 2, .int 0])), (x20, .inr (14, [.ref x1, .ref x8, .ref x21, .ref x28, .ref x35, .int 0, .ref x36, .ref x37, .ref x38, .int 0, .int 0, .int 0, .int 0, .int 0, .int 0, .int 0, .int 1]))] sz)) (va_Qi (fun (r : Int32) (u : va_W) => (r = 0 ∧ (u = [(x8, .inr (8, [.ref x1, .ref x9, .ref x10, .ref x12, .ref x14, .int 0, .ref x15, .ref x16, .ref x17, .int 0, .ref x18, .ref x19, .int 0, .int 1, .int 2, .int 0])), (x20, .inr (14, [.ref x1, .ref x8, .ref x21, .ref x28, .ref x35, .int 0, .ref x36, .ref x37, .ref x38, .int 0, .int 0, .int 0, .int 0, .int 0, .int 0, .int 0, .int 1]))]))) (wq_B D (va_A [(x8, .inr (8, [.ref x1, .ref x9, .ref x10, .ref x12, .ref x14, .int 0, .ref x15, .ref x16, .ref x17, .int 0, .ref x18, .ref x19, .int 0, .int 1, .int 2, .int 0])), (x20, .inr (14, [.ref x1, .ref x8, .ref x21, .ref x28, .ref x35, .int 0, .ref x36, .ref x37, .ref x38, .int 0, .int 0, .int 0, .int 0, .int 0, .int 0, .int 0, .int 1]))] sz)) (va_A [(x8, .inr (8, [.ref x1, .ref x9, .ref x10, .ref x12, .ref x14, .int 0, .ref x15, .ref x16, .ref x17, .int 0, .ref x18, .ref x19, .int 0, .int 1, .int 2, .int 0])), (x20, .inr (14, [.ref x1, .ref x8, .ref x21, .ref x28, .ref x35, .int 0, .ref x36, .ref x37, .ref x38, .int 0, .int 0, .int 0, .int 0, .int 0, .int 0, .int 0, .int 1]))] sz)) 0 0 (va_A [(x8, .inr (8, [.ref x1, .ref x9, .ref x10, .ref x12, .ref x14, .int 0, .ref x15, .ref x16, .ref x17, .int 0, .ref x18, .ref x19, .int 0, .int 1, .int 2, .int 0])), (x20, .inr (14, [.ref x1, .ref x8, .ref x21, .ref x28, .ref x35, .int 0, .ref x36, .ref x37, .ref x38, .int 0, .int 0, .int 0, .int 0, .int 0, .int 0, .int 0, .int 1]))] sz) := by
  refine Met.ofW (cc := cX9_fullSet) (maxL := 1) (ret := (some .int)) (by decide) rfl ?_
  intro p e s m args below meth c s₁ B hml hv
  obtain ⟨rfl, hsz, hP, hK, hD0, hE⟩ := hv
  have hx := B.exec
  have hb := B.bytes
  have hr := B.returns
  have hts := atoms_spec (ws := vs_a_X9_fullSet_0) B.pre
  have hown : s.vm.findClass RX9 = some m.cls := findClass_of_methodNamed B.named
  have hlocks := B.notSynchronized
  subst hsz
  have hD := hD0.self (sz := s.heap.size)
  generalize hAe : va_A [(x8, .inr (8, [.ref x1, .ref x9, .ref x10, .ref x12, .ref x14, .int 0, .ref x15, .ref x16, .ref x17, .int 0, .ref x18, .ref x19, .int 0, .int 1, .int 2, .int 0])), (x20, .inr (14, [.ref x1, .ref x8, .ref x21, .ref x28, .ref x35, .int 0, .ref x36, .ref x37, .ref x38, .int 0, .int 0, .int 0, .int 0, .int 0, .int 0, .int 0, .int 1]))] s.heap.size = A at hD hE ⊢
  have hA : ∀ q : Nat, s.heap.size ≤ q → A q := fun q h => by rw [← hAe]; exact Or.inr h
  have hS : va_S A s.heap s.heap [] := va_S.rf
  have hP : va_P D vwCl [(x8, .inr (8, [.ref x1, .ref x9, .ref x10, .ref x12, .ref x14, .int 0, .ref x15, .ref x16, .ref x17, .int 0, .ref x18, .ref x19, .int 0, .int 1, .int 2, .int 0])), (x20, .inr (14, [.ref x1, .ref x8, .ref x21, .ref x28, .ref x35, .int 0, .ref x36, .ref x37, .ref x38, .int 0, .int 0, .int 0, .int 0, .int 0, .int 0, .int 0, .int 1]))] s.heap := hP
  have hl := lv_entry ([.ref x20]) (n := 1) (Nat.le_of_ble_eq_true rfl)
  rw [lg_entry_eq]
  generalize (lg_sl ([.ref x20]) ++ List.replicate (1 - (lg_sl ([.ref x20])).length) Slot.unset).toArray = ls at hl ⊢
  have hl : lv_has ls 1 [(0, .ref x20)] := hl
  refine lv_iconst (v := 1) hx hb dX9_fullSet_0 (by decide) ?_
  refine lv_bipush (v := 12) hx hb dX9_fullSet_1 (by decide) ?_
  refine lv_aload_n hx hb dX9_fullSet_3 rfl (lv_at hl 0 rfl) ?_
  refine va_get (D := D) (ci := 14) (v := .ref x8) (C := RX9) (T := TX9) (N := 17) hx hb hts iv_a_X9_fullSet_0_X9 hown hK hP 1 rfl rfl 1 (by decide) (hts (.fieldLink RX9 38 "AnswerFold$Solver" "grounding" "LAnswerFold$Grounding;") (by decide +kernel)) (fun _ h9 => h9) rfl dX9_fullSet_4 ?_
  refine va_getN (D := D) (ci := 8) (v := .int 0) (C := RX3) (T := TX3) (N := 16) hx hb hts iv_a_X9_fullSet_0_X3 hown hK hP 0 rfl rfl 12 (by decide) (hE.at (.fieldLinkNest "AnswerFold$Solver" 65 "AnswerFold$Grounding" "openCount" "I" "AnswerFold") (by decide +kernel)) (fun _ h9 => h9) rfl dX9_fullSet_7 ?_
  refine va_mmin hx hb (hml.trans hl.1.symm) hown (hts (.methodLink RX9 209 Lib.Math.min.name) (by decide +kernel)) (hts (.static Lib.Math.min.name) (by decide +kernel)) (hts (.initialized "java/lang/Math") (by decide +kernel)) (hts (.code Lib.Math.min.name Lib.Math.min.code 2 (some .int)) (by decide +kernel)) (Nat.le_of_ble_eq_true rfl) (Nat.le_of_ble_eq_true rfl) (Nat.le_of_ble_eq_true rfl) (Nat.le_of_ble_eq_true rfl) dX9_fullSet_10 ?_
  refine lv_topi (nm_r (e' := 0) (by decide) ?_)
  refine lv_ishl hx hb dX9_fullSet_13 ?_
  refine lv_topi (nm_r (e' := 1) (by decide) ?_)
  refine lv_iconst (v := 1) hx hb dX9_fullSet_14 (by decide) ?_
  refine lv_isub hx hb dX9_fullSet_15 ?_
  refine lv_topi (nm_r (e' := 0) (by decide) ?_)
  have hP9 := hP.sub (ws' := [(x8, .inr (8, [.ref x1, .ref x9, .ref x10, .ref x12, .ref x14, .int 0, .ref x15, .ref x16, .ref x17, .int 0, .ref x18, .ref x19, .int 0, .int 1, .int 2, .int 0])), (x20, .inr (14, [.ref x1, .ref x8, .ref x21, .ref x28, .ref x35, .int 0, .ref x36, .ref x37, .ref x38, .int 0, .int 0, .int 0, .int 0, .int 0, .int 0, .int 0, .int 1]))]) [0, 1] rfl
  have hD9 := hD.sub (ws' := [(x8, .inr (8, [.ref x1, .ref x9, .ref x10, .ref x12, .ref x14, .int 0, .ref x15, .ref x16, .ref x17, .int 0, .ref x18, .ref x19, .int 0, .int 1, .int 2, .int 0])), (x20, .inr (14, [.ref x1, .ref x8, .ref x21, .ref x28, .ref x35, .int 0, .ref x36, .ref x37, .ref x38, .int 0, .int 0, .int 0, .int 0, .int 0, .int 0, .int 0, .int 1]))]) [0, 1] (by decide) rfl
  refine W.widen (k := 0) (n := 0) (Nat.le_of_ble_eq_true rfl) (Nat.le_of_ble_eq_true rfl) ?_
  exact W.iret (v := 0) hx hb hr (fun t ht hW => ⟨⟨0, [(x8, .inr (8, [.ref x1, .ref x9, .ref x10, .ref x12, .ref x14, .int 0, .ref x15, .ref x16, .ref x17, .int 0, .ref x18, .ref x19, .int 0, .int 1, .int 2, .int 0])), (x20, .inr (14, [.ref x1, .ref x8, .ref x21, .ref x28, .ref x35, .int 0, .ref x36, .ref x37, .ref x38, .int 0, .int 0, .int 0, .int 0, .int 0, .int 0, .int 0, .int 1]))], rfl, ⟨rfl, rfl⟩, wq_B.of ht hP9 hD9⟩, hS.F ht⟩) hS.2.2 dX9_fullSet_16
def vs_a_X9_fits_0 : List Cond := .code yX9_fits cX9_fits 2 (some .boolean) :: ([.fieldLink RX9 188 "AnswerFold$Solver" "isHopeless" "Z", .fieldLink RX9 182 "AnswerFold$Solver" "mustHave" "I", .fieldLink RX9 185 "AnswerFold$Solver" "mustLack" "I"] ++ (u_ws RX9 TX9 17))
theorem iv_a_X9_fits_0_X9 : ∀ w ∈ u_ws RX9 TX9 17, w ∈ vs_a_X9_fits_0 := (fun _ h => List.mem_cons_of_mem _ (List.mem_append_right _ (h)))
set_option maxHeartbeats 4000000 in
set_option maxRecDepth 100000 in
theorem a_X9_fits_0 (l : Launch) (D : va_G) (ty : Nat → ClassId) (td mi sz : Nat) (x20 : Nat) (x1 : Nat) (x8 : Nat) (x21 : Nat) (x28 : Nat) (x35 : Nat) (x36 : Nat) (x37 : Nat) (x38 : Nat) : Met l yX9_fits vs_a_X9_fits_0 { frames := 0, cells := 0, slots := 0, locals := 0 } (va_Pc [.ref x20, .int 0] (wq_P D ty td mi [(x20, .inr (14, [.ref x1, .ref x8, .ref x21, .ref x28, .ref x35, .int 0, .ref x36, .ref x37, .ref x38, .int 0, .int 0, .int 0, .int 0, .int 0, .int 0, .int 0, .int 1]))] sz)) (va_Qi (fun (r : Int32) (u : va_W) => (r = 1 ∧ (u = [(x20, .inr (14, [.ref x1, .ref x8, .ref x21, .ref x28, .ref x35, .int 0, .ref x36, .ref x37, .ref x38, .int 0, .int 0, .int 0, .int 0, .int 0, .int 0, .int 0, .int 1]))]))) (wq_B D (va_A [(x20, .inr (14, [.ref x1, .ref x8, .ref x21, .ref x28, .ref x35, .int 0, .ref x36, .ref x37, .ref x38, .int 0, .int 0, .int 0, .int 0, .int 0, .int 0, .int 0, .int 1]))] sz)) (va_A [(x20, .inr (14, [.ref x1, .ref x8, .ref x21, .ref x28, .ref x35, .int 0, .ref x36, .ref x37, .ref x38, .int 0, .int 0, .int 0, .int 0, .int 0, .int 0, .int 0, .int 1]))] sz)) 0 0 (va_A [(x20, .inr (14, [.ref x1, .ref x8, .ref x21, .ref x28, .ref x35, .int 0, .ref x36, .ref x37, .ref x38, .int 0, .int 0, .int 0, .int 0, .int 0, .int 0, .int 0, .int 1]))] sz) := by
  refine Met.ofW (cc := cX9_fits) (maxL := 2) (ret := (some .boolean)) (by decide) rfl ?_
  intro p e s m args below meth c s₁ B hml hv
  obtain ⟨rfl, hsz, hP, hK, hD0, hE⟩ := hv
  have hx := B.exec
  have hb := B.bytes
  have hr := B.returns
  have hts := atoms_spec (ws := vs_a_X9_fits_0) B.pre
  have hown : s.vm.findClass RX9 = some m.cls := findClass_of_methodNamed B.named
  have hlocks := B.notSynchronized
  subst hsz
  have hD := hD0.self (sz := s.heap.size)
  generalize hAe : va_A [(x20, .inr (14, [.ref x1, .ref x8, .ref x21, .ref x28, .ref x35, .int 0, .ref x36, .ref x37, .ref x38, .int 0, .int 0, .int 0, .int 0, .int 0, .int 0, .int 0, .int 1]))] s.heap.size = A at hD hE ⊢
  have hA : ∀ q : Nat, s.heap.size ≤ q → A q := fun q h => by rw [← hAe]; exact Or.inr h
  have hS : va_S A s.heap s.heap [] := va_S.rf
  have hP : va_P D vwCl [(x20, .inr (14, [.ref x1, .ref x8, .ref x21, .ref x28, .ref x35, .int 0, .ref x36, .ref x37, .ref x38, .int 0, .int 0, .int 0, .int 0, .int 0, .int 0, .int 0, .int 1]))] s.heap := hP
  have hl := lv_entry ([.ref x20, .int 0]) (n := 2) (Nat.le_of_ble_eq_true rfl)
  rw [lg_entry_eq]
  generalize (lg_sl ([.ref x20, .int 0]) ++ List.replicate (2 - (lg_sl ([.ref x20, .int 0])).length) Slot.unset).toArray = ls at hl ⊢
  have hl : lv_has ls 2 [(0, .ref x20), (1, .int 0)] := hl
  refine lv_aload_n hx hb dX9_fits_0 rfl (lv_at hl 0 rfl) ?_
  refine va_get (D := D) (ci := 14) (v := .int 0) (C := RX9) (T := TX9) (N := 17) hx hb hts iv_a_X9_fits_0_X9 hown hK hP 0 rfl rfl 14 (by decide) (hts (.fieldLink RX9 188 "AnswerFold$Solver" "isHopeless" "Z") (by decide +kernel)) (fun _ h9 => h9) rfl dX9_fits_1 ?_
  refine lv_if_ne (tgt := 33) hx hb dX9_fits_4 (by decide) (fun c0 => absurd (by decide) c0) (fun _ => ?_)
  refine lv_iload_n hx hb dX9_fits_7 rfl (lv_at hl 1 rfl) ?_
  refine lv_aload_n hx hb dX9_fits_8 rfl (lv_at hl 0 rfl) ?_
  refine va_get (D := D) (ci := 14) (v := .int 0) (C := RX9) (T := TX9) (N := 17) hx hb hts iv_a_X9_fits_0_X9 hown hK hP 0 rfl rfl 12 (by decide) (hts (.fieldLink RX9 182 "AnswerFold$Solver" "mustHave" "I") (by decide +kernel)) (fun _ h9 => h9) rfl dX9_fits_9 ?_
  refine lv_iand hx hb dX9_fits_12 ?_
  refine lv_topi (nm_r (e' := 0) (by decide) ?_)
  refine lv_aload_n hx hb dX9_fits_13 rfl (lv_at hl 0 rfl) ?_
  refine va_get (D := D) (ci := 14) (v := .int 0) (C := RX9) (T := TX9) (N := 17) hx hb hts iv_a_X9_fits_0_X9 hown hK hP 0 rfl rfl 12 (by decide) (hts (.fieldLink RX9 182 "AnswerFold$Solver" "mustHave" "I") (by decide +kernel)) (fun _ h9 => h9) rfl dX9_fits_14 ?_
  refine lv_icmp_ne (tgt := 33) hx hb dX9_fits_17 (by decide) (fun c0 => absurd (by decide) c0) (fun _ => ?_)
  refine lv_iload_n hx hb dX9_fits_20 rfl (lv_at hl 1 rfl) ?_
  refine lv_aload_n hx hb dX9_fits_21 rfl (lv_at hl 0 rfl) ?_
  refine va_get (D := D) (ci := 14) (v := .int 0) (C := RX9) (T := TX9) (N := 17) hx hb hts iv_a_X9_fits_0_X9 hown hK hP 0 rfl rfl 13 (by decide) (hts (.fieldLink RX9 185 "AnswerFold$Solver" "mustLack" "I") (by decide +kernel)) (fun _ h9 => h9) rfl dX9_fits_22 ?_
  refine lv_iand hx hb dX9_fits_25 ?_
  refine lv_topi (nm_r (e' := 0) (by decide) ?_)
  refine lv_if_ne (tgt := 33) hx hb dX9_fits_26 (by decide) (fun c0 => absurd (by decide) c0) (fun _ => ?_)
  refine lv_iconst (v := 1) hx hb dX9_fits_29 (by decide) ?_
  refine lv_goto (tgt := 34) hx hb dX9_fits_30 (by decide) ?_
  have hP9 := hP.sub (ws' := [(x20, .inr (14, [.ref x1, .ref x8, .ref x21, .ref x28, .ref x35, .int 0, .ref x36, .ref x37, .ref x38, .int 0, .int 0, .int 0, .int 0, .int 0, .int 0, .int 0, .int 1]))]) [0] rfl
  have hD9 := hD.sub (ws' := [(x20, .inr (14, [.ref x1, .ref x8, .ref x21, .ref x28, .ref x35, .int 0, .ref x36, .ref x37, .ref x38, .int 0, .int 0, .int 0, .int 0, .int 0, .int 0, .int 0, .int 1]))]) [0] (by decide) rfl
  refine W.widen (k := 0) (n := 0) (Nat.le_of_ble_eq_true rfl) (Nat.le_of_ble_eq_true rfl) ?_
  exact W.zret (v := 1) hx hb hr rfl (fun t ht hW => ⟨⟨1, [(x20, .inr (14, [.ref x1, .ref x8, .ref x21, .ref x28, .ref x35, .int 0, .ref x36, .ref x37, .ref x38, .int 0, .int 0, .int 0, .int 0, .int 0, .int 0, .int 0, .int 1]))], rfl, ⟨rfl, rfl⟩, wq_B.of ht hP9 hD9⟩, hS.F ht⟩) hS.2.2 dX9_fits_34
def vs_a_X9_countsHeld_0 : List Cond := .code yX9_countsHeld cX9_countsHeld 4 (some .int) :: ([.constant RX9 248 1048575, .fieldLink RX9 109 "AnswerFold$Solver" "counting" "I"] ++ (u_ws RX9 TX9 17))
theorem iv_a_X9_countsHeld_0_X9 : ∀ w ∈ u_ws RX9 TX9 17, w ∈ vs_a_X9_countsHeld_0 := (fun _ h => List.mem_cons_of_mem _ (List.mem_append_right _ (h)))
set_option maxHeartbeats 4000000 in
set_option maxRecDepth 100000 in
theorem a_X9_countsHeld_0 (l : Launch) (D : va_G) (ty : Nat → ClassId) (td mi sz : Nat) (x20 : Nat) (x1 : Nat) (x8 : Nat) (x21 : Nat) (x28 : Nat) (x35 : Nat) (x36 : Nat) (x37 : Nat) (x38 : Nat) : Met l yX9_countsHeld vs_a_X9_countsHeld_0 { frames := 0, cells := 0, slots := 0, locals := 0 } (va_Pc [.ref x20, .int 0] (wq_P D ty td mi [(x20, .inr (14, [.ref x1, .ref x8, .ref x21, .ref x28, .ref x35, .int 0, .ref x36, .ref x37, .ref x38, .int 0, .int 0, .int 0, .int 0, .int 0, .int 0, .int 0, .int 1]))] sz)) (va_Qi (fun (r : Int32) (u : va_W) => (r = 1048575 ∧ (u = [(x20, .inr (14, [.ref x1, .ref x8, .ref x21, .ref x28, .ref x35, .int 0, .ref x36, .ref x37, .ref x38, .int 0, .int 0, .int 0, .int 0, .int 0, .int 0, .int 0, .int 1]))]))) (wq_B D (va_A [(x20, .inr (14, [.ref x1, .ref x8, .ref x21, .ref x28, .ref x35, .int 0, .ref x36, .ref x37, .ref x38, .int 0, .int 0, .int 0, .int 0, .int 0, .int 0, .int 0, .int 1]))] sz)) (va_A [(x20, .inr (14, [.ref x1, .ref x8, .ref x21, .ref x28, .ref x35, .int 0, .ref x36, .ref x37, .ref x38, .int 0, .int 0, .int 0, .int 0, .int 0, .int 0, .int 0, .int 1]))] sz)) 0 0 (va_A [(x20, .inr (14, [.ref x1, .ref x8, .ref x21, .ref x28, .ref x35, .int 0, .ref x36, .ref x37, .ref x38, .int 0, .int 0, .int 0, .int 0, .int 0, .int 0, .int 0, .int 1]))] sz) := by
  refine Met.ofW (cc := cX9_countsHeld) (maxL := 4) (ret := (some .int)) (by decide) rfl ?_
  intro p e s m args below meth c s₁ B hml hv
  obtain ⟨rfl, hsz, hP, hK, hD0, hE⟩ := hv
  have hx := B.exec
  have hb := B.bytes
  have hr := B.returns
  have hts := atoms_spec (ws := vs_a_X9_countsHeld_0) B.pre
  have hown : s.vm.findClass RX9 = some m.cls := findClass_of_methodNamed B.named
  have hlocks := B.notSynchronized
  subst hsz
  have hD := hD0.self (sz := s.heap.size)
  generalize hAe : va_A [(x20, .inr (14, [.ref x1, .ref x8, .ref x21, .ref x28, .ref x35, .int 0, .ref x36, .ref x37, .ref x38, .int 0, .int 0, .int 0, .int 0, .int 0, .int 0, .int 0, .int 1]))] s.heap.size = A at hD hE ⊢
  have hA : ∀ q : Nat, s.heap.size ≤ q → A q := fun q h => by rw [← hAe]; exact Or.inr h
  have hS : va_S A s.heap s.heap [] := va_S.rf
  have hP : va_P D vwCl [(x20, .inr (14, [.ref x1, .ref x8, .ref x21, .ref x28, .ref x35, .int 0, .ref x36, .ref x37, .ref x38, .int 0, .int 0, .int 0, .int 0, .int 0, .int 0, .int 0, .int 1]))] s.heap := hP
  have hl := lv_entry ([.ref x20, .int 0]) (n := 4) (Nat.le_of_ble_eq_true rfl)
  rw [lg_entry_eq]
  generalize (lg_sl ([.ref x20, .int 0]) ++ List.replicate (4 - (lg_sl ([.ref x20, .int 0])).length) Slot.unset).toArray = ls at hl ⊢
  have hl : lv_has ls 4 [(0, .ref x20), (1, .int 0)] := hl
  refine lv_ldc (v := 1048575) hx hb hown (hts (.constant RX9 248 1048575) (by decide +kernel)) dX9_countsHeld_0 ?_
  refine lv_istore_n (lv' := [(2, .int 1048575), (0, .ref x20), (1, .int 0)]) hx hb dX9_countsHeld_2 rfl hl (by decide) rfl (fun ls hl => ?_)
  refine lv_iconst (v := 0) hx hb dX9_countsHeld_3 (by decide) ?_
  refine lv_istore_n (lv' := [(3, .int 0), (2, .int 1048575), (0, .ref x20), (1, .int 0)]) hx hb dX9_countsHeld_4 rfl hl (by decide) rfl (fun ls hl => ?_)
  refine lv_aload_n hx hb dX9_countsHeld_5 rfl (lv_at hl 2 rfl) ?_
  refine va_get (D := D) (ci := 14) (v := .int 0) (C := RX9) (T := TX9) (N := 17) hx hb hts iv_a_X9_countsHeld_0_X9 hown hK hP 0 rfl rfl 10 (by decide) (hts (.fieldLink RX9 109 "AnswerFold$Solver" "counting" "I") (by decide +kernel)) (fun _ h9 => h9) rfl dX9_countsHeld_6 ?_
  refine lv_iload_n hx hb dX9_countsHeld_9 rfl (lv_at hl 0 rfl) ?_
  refine lv_ishr hx hb dX9_countsHeld_10 ?_
  refine lv_topi (nm_r (e' := 0) (by decide) ?_)
  refine lv_if_eq (tgt := 61) hx hb dX9_countsHeld_11 (by decide) (fun _ => ?_) (fun c0 => absurd (by decide) c0)
  refine lv_iload_n hx hb dX9_countsHeld_61 rfl (lv_at hl 1 rfl) ?_
  have hP9 := hP.sub (ws' := [(x20, .inr (14, [.ref x1, .ref x8, .ref x21, .ref x28, .ref x35, .int 0, .ref x36, .ref x37, .ref x38, .int 0, .int 0, .int 0, .int 0, .int 0, .int 0, .int 0, .int 1]))]) [0] rfl
  have hD9 := hD.sub (ws' := [(x20, .inr (14, [.ref x1, .ref x8, .ref x21, .ref x28, .ref x35, .int 0, .ref x36, .ref x37, .ref x38, .int 0, .int 0, .int 0, .int 0, .int 0, .int 0, .int 0, .int 1]))]) [0] (by decide) rfl
  refine W.widen (k := 0) (n := 0) (Nat.le_of_ble_eq_true rfl) (Nat.le_of_ble_eq_true rfl) ?_
  exact W.iret (v := 1048575) hx hb hr (fun t ht hW => ⟨⟨1048575, [(x20, .inr (14, [.ref x1, .ref x8, .ref x21, .ref x28, .ref x35, .int 0, .ref x36, .ref x37, .ref x38, .int 0, .int 0, .int 0, .int 0, .int 0, .int 0, .int 0, .int 1]))], rfl, ⟨rfl, rfl⟩, wq_B.of ht hP9 hD9⟩, hS.F ht⟩) hS.2.2 dX9_countsHeld_62
def vs_a_X9_isModel_0 : List Cond := .code yX9_isModel cX9_isModel 4 (some .boolean) :: ([.methodLink RX9 241 yX9_countsHeld, .instanceMethod yX9_countsHeld, .selects RX9 yX9_countsHeld yX9_countsHeld, .initialized RX9, .fieldLink RX9 103 "AnswerFold$Solver" "lastBroken" "I", .fieldLink RX9 12 "AnswerFold$Solver" "checks" "LAnswerFold$Rows;"] ++ (vs_a_X9_countsHeld_0 ++ (u_ws RX9 TX9 17 ++ (u_ws RX7 TX7 7))))
theorem iv_a_X9_isModel_0_X7 : ∀ w ∈ u_ws RX7 TX7 7, w ∈ vs_a_X9_isModel_0 := (fun _ h => List.mem_cons_of_mem _ (List.mem_append_right _ (List.mem_append_right _ (List.mem_append_right _ (h)))))
theorem iv_a_X9_isModel_0_X9 : ∀ w ∈ u_ws RX9 TX9 17, w ∈ vs_a_X9_isModel_0 := (fun _ h => List.mem_cons_of_mem _ (List.mem_append_right _ (List.mem_append_right _ (List.mem_append_left _ h))))
set_option maxRecDepth 20000 in
theorem gv_a_X9_isModel_0_0 : GoodIn vs_a_X9_isModel_0 (wsV RX9 241 RX9 yX9_countsHeld vs_a_X9_countsHeld_0) := goodIn_app (goodIn_sub (by decide +kernel) (by decide +kernel)) (goodIn_sub (fun _ h => List.mem_cons_of_mem _ (List.mem_append_right _ (List.mem_append_left _ h))) (by decide +kernel))
set_option maxHeartbeats 4000000 in
set_option maxRecDepth 100000 in
theorem a_X9_isModel_0 (l : Launch) (D : va_G) (ty : Nat → ClassId) (td mi sz : Nat) (x21 : Nat) (x22 : Nat) (x23 : Nat) (x24 : Nat) (x25 : Nat) (x26 : Nat) (x27 : Nat) (x20 : Nat) (x1 : Nat) (x8 : Nat) (x28 : Nat) (x35 : Nat) (x36 : Nat) (x37 : Nat) (x38 : Nat) : Met l yX9_isModel vs_a_X9_isModel_0 { frames := 1, cells := 0, slots := 0, locals := 23 } (va_Pc [.ref x20, .int 0] (wq_P D ty td mi [(x21, .inr (12, [.ref x22, .ref x23, .ref x24, .ref x25, .ref x26, .ref x27, .int 0])), (x20, .inr (14, [.ref x1, .ref x8, .ref x21, .ref x28, .ref x35, .int 0, .ref x36, .ref x37, .ref x38, .int 0, .int 0, .int 0, .int 0, .int 0, .int 0, .int 0, .int 1]))] sz)) (va_Qi (fun (r : Int32) (u : va_W) => (r = 1 ∧ (u = [(x21, .inr (12, [.ref x22, .ref x23, .ref x24, .ref x25, .ref x26, .ref x27, .int 0])), (x20, .inr (14, [.ref x1, .ref x8, .ref x21, .ref x28, .ref x35, .int 0, .ref x36, .ref x37, .ref x38, .int 0, .int 0, .int 0, .int 0, .int 0, .int 0, .int 0, .int 1]))]))) (wq_B D (va_A [(x21, .inr (12, [.ref x22, .ref x23, .ref x24, .ref x25, .ref x26, .ref x27, .int 0])), (x20, .inr (14, [.ref x1, .ref x8, .ref x21, .ref x28, .ref x35, .int 0, .ref x36, .ref x37, .ref x38, .int 0, .int 0, .int 0, .int 0, .int 0, .int 0, .int 0, .int 1]))] sz)) (va_A [(x21, .inr (12, [.ref x22, .ref x23, .ref x24, .ref x25, .ref x26, .ref x27, .int 0])), (x20, .inr (14, [.ref x1, .ref x8, .ref x21, .ref x28, .ref x35, .int 0, .ref x36, .ref x37, .ref x38, .int 0, .int 0, .int 0, .int 0, .int 0, .int 0, .int 0, .int 1]))] sz)) 0 0 (va_A [(x21, .inr (12, [.ref x22, .ref x23, .ref x24, .ref x25, .ref x26, .ref x27, .int 0])), (x20, .inr (14, [.ref x1, .ref x8, .ref x21, .ref x28, .ref x35, .int 0, .ref x36, .ref x37, .ref x38, .int 0, .int 0, .int 0, .int 0, .int 0, .int 0, .int 0, .int 1]))] sz) := by
  refine Met.ofW (cc := cX9_isModel) (maxL := 4) (ret := (some .boolean)) (by decide) rfl ?_
  intro p e s m args below meth c s₁ B hml hv
  obtain ⟨rfl, hsz, hP, hK, hD0, hE⟩ := hv
  have hx := B.exec
  have hb := B.bytes
  have hr := B.returns
  have hts := atoms_spec (ws := vs_a_X9_isModel_0) B.pre
  have hown : s.vm.findClass RX9 = some m.cls := findClass_of_methodNamed B.named
  have hlocks := B.notSynchronized
  subst hsz
  have hD := hD0.self (sz := s.heap.size)
  generalize hAe : va_A [(x21, .inr (12, [.ref x22, .ref x23, .ref x24, .ref x25, .ref x26, .ref x27, .int 0])), (x20, .inr (14, [.ref x1, .ref x8, .ref x21, .ref x28, .ref x35, .int 0, .ref x36, .ref x37, .ref x38, .int 0, .int 0, .int 0, .int 0, .int 0, .int 0, .int 0, .int 1]))] s.heap.size = A at hD hE ⊢
  have hA : ∀ q : Nat, s.heap.size ≤ q → A q := fun q h => by rw [← hAe]; exact Or.inr h
  have hS : va_S A s.heap s.heap [] := va_S.rf
  have hP : va_P D vwCl [(x21, .inr (12, [.ref x22, .ref x23, .ref x24, .ref x25, .ref x26, .ref x27, .int 0])), (x20, .inr (14, [.ref x1, .ref x8, .ref x21, .ref x28, .ref x35, .int 0, .ref x36, .ref x37, .ref x38, .int 0, .int 0, .int 0, .int 0, .int 0, .int 0, .int 0, .int 1]))] s.heap := hP
  have hl := lv_entry ([.ref x20, .int 0]) (n := 4) (Nat.le_of_ble_eq_true rfl)
  rw [lg_entry_eq]
  generalize (lg_sl ([.ref x20, .int 0]) ++ List.replicate (4 - (lg_sl ([.ref x20, .int 0])).length) Slot.unset).toArray = ls at hl ⊢
  have hl : lv_has ls 4 [(0, .ref x20), (1, .int 0)] := hl
  refine lv_aload_n hx hb dX9_isModel_0 rfl (lv_at hl 0 rfl) ?_
  refine lv_iload_n hx hb dX9_isModel_1 rfl (lv_at hl 1 rfl) ?_
  refine wq_i (wc := [(x20, .inr (14, [.ref x1, .ref x8, .ref x21, .ref x28, .ref x35, .int 0, .ref x36, .ref x37, .ref x38, .int 0, .int 0, .int 0, .int 0, .int 0, .int 0, .int 0, .int 1]))]) (wr := [(x21, .inr (12, [.ref x22, .ref x23, .ref x24, .ref x25, .ref x26, .ref x27, .int 0]))]) (va_runV (As := [.int 0]) (rest := []) ⟨hx, hb, hml, hown, hts⟩ (a_X9_countsHeld_0 l D ty td mi s.heap.size x20 x1 x8 x21 x28 x35 x36 x37 x38) (cwV 1 hts gv_a_X9_isModel_0_0 rfl rfl rfl (by decide +kernel) ⟨(Nat.le_of_ble_eq_true rfl), (Nat.le_of_ble_eq_true rfl)⟩) (wq_preV hP hD hK hE hS hA [1] rfl (by decide) 1 14 rfl rfl) rfl rfl hl.1 rfl (lv_room (Nat.le_of_ble_eq_true rfl)) dX9_isModel_2 ⟨(Nat.le_of_ble_eq_true rfl), (Nat.le_of_ble_eq_true rfl)⟩) hS hA hP hD [1] [0] rfl rfl (by decide) (by decide) (fun r u H locs hw hP hD hS => ?_)
  obtain ⟨rfl, rfl⟩ := hw
  have hP : va_P D vwCl [(x21, .inr (12, [.ref x22, .ref x23, .ref x24, .ref x25, .ref x26, .ref x27, .int 0])), (x20, .inr (14, [.ref x1, .ref x8, .ref x21, .ref x28, .ref x35, .int 0, .ref x36, .ref x37, .ref x38, .int 0, .int 0, .int 0, .int 0, .int 0, .int 0, .int 0, .int 1]))] H := hP
  have hD : va_D A [(x21, .inr (12, [.ref x22, .ref x23, .ref x24, .ref x25, .ref x26, .ref x27, .int 0])), (x20, .inr (14, [.ref x1, .ref x8, .ref x21, .ref x28, .ref x35, .int 0, .ref x36, .ref x37, .ref x38, .int 0, .int 0, .int 0, .int 0, .int 0, .int 0, .int 0, .int 1]))] := hD
  refine W.widen (k := 0) (n := 0) (Nat.le_of_ble_eq_true rfl) (Nat.le_of_ble_eq_true rfl) ?_
  refine lv_istore_n (lv' := [(2, .int 1048575), (0, .ref x20), (1, .int 0)]) hx hb dX9_isModel_5 rfl hl (by decide) rfl (fun ls hl => ?_)
  refine lv_aload_n hx hb dX9_isModel_6 rfl (lv_at hl 1 rfl) ?_
  refine va_get (D := D) (ci := 14) (v := .int 0) (C := RX9) (T := TX9) (N := 17) hx hb hts iv_a_X9_isModel_0_X9 hown hK hP 1 rfl rfl 15 (by decide) (hts (.fieldLink RX9 103 "AnswerFold$Solver" "lastBroken" "I") (by decide +kernel)) (fun _ h9 => h9) rfl dX9_isModel_7 ?_
  refine lv_aload_n hx hb dX9_isModel_10 rfl (lv_at hl 1 rfl) ?_
  refine va_get (D := D) (ci := 14) (v := .ref x21) (C := RX9) (T := TX9) (N := 17) hx hb hts iv_a_X9_isModel_0_X9 hown hK hP 1 rfl rfl 2 (by decide) (hts (.fieldLink RX9 12 "AnswerFold$Solver" "checks" "LAnswerFold$Rows;") (by decide +kernel)) (fun _ h9 => h9) rfl dX9_isModel_11 ?_
  refine va_getN (D := D) (ci := 12) (v := .int 0) (C := RX7) (T := TX7) (N := 7) hx hb hts iv_a_X9_isModel_0_X7 hown hK hP 0 rfl rfl 6 (by decide) (hE.at (.fieldLinkNest "AnswerFold$Solver" 93 "AnswerFold$Rows" "count" "I" "AnswerFold") (by decide +kernel)) (fun _ h9 => h9) rfl dX9_isModel_14 ?_
  refine lv_icmp_ge (tgt := 38) hx hb dX9_isModel_17 (by decide) (fun _ => ?_) (fun c0 => absurd (by decide) c0)
  refine lv_iconst (v := 0) hx hb dX9_isModel_38 (by decide) ?_
  refine lv_istore_n (lv' := [(3, .int 0), (2, .int 1048575), (0, .ref x20), (1, .int 0)]) hx hb dX9_isModel_39 rfl hl (by decide) rfl (fun ls hl => ?_)
  refine lv_iload_n hx hb dX9_isModel_40 rfl (lv_at hl 0 rfl) ?_
  refine lv_aload_n hx hb dX9_isModel_41 rfl (lv_at hl 2 rfl) ?_
  refine va_get (D := D) (ci := 14) (v := .ref x21) (C := RX9) (T := TX9) (N := 17) hx hb hts iv_a_X9_isModel_0_X9 hown hK hP 1 rfl rfl 2 (by decide) (hts (.fieldLink RX9 12 "AnswerFold$Solver" "checks" "LAnswerFold$Rows;") (by decide +kernel)) (fun _ h9 => h9) rfl dX9_isModel_42 ?_
  refine va_getN (D := D) (ci := 12) (v := .int 0) (C := RX7) (T := TX7) (N := 7) hx hb hts iv_a_X9_isModel_0_X7 hown hK hP 0 rfl rfl 6 (by decide) (hE.at (.fieldLinkNest "AnswerFold$Solver" 93 "AnswerFold$Rows" "count" "I" "AnswerFold") (by decide +kernel)) (fun _ h9 => h9) rfl dX9_isModel_45 ?_
  refine lv_icmp_ge (tgt := 77) hx hb dX9_isModel_48 (by decide) (fun _ => ?_) (fun c0 => absurd (by decide) c0)
  refine lv_iconst (v := 1) hx hb dX9_isModel_77 (by decide) ?_
  have hP9 := hP.sub (ws' := [(x21, .inr (12, [.ref x22, .ref x23, .ref x24, .ref x25, .ref x26, .ref x27, .int 0])), (x20, .inr (14, [.ref x1, .ref x8, .ref x21, .ref x28, .ref x35, .int 0, .ref x36, .ref x37, .ref x38, .int 0, .int 0, .int 0, .int 0, .int 0, .int 0, .int 0, .int 1]))]) [0, 1] rfl
  have hD9 := hD.sub (ws' := [(x21, .inr (12, [.ref x22, .ref x23, .ref x24, .ref x25, .ref x26, .ref x27, .int 0])), (x20, .inr (14, [.ref x1, .ref x8, .ref x21, .ref x28, .ref x35, .int 0, .ref x36, .ref x37, .ref x38, .int 0, .int 0, .int 0, .int 0, .int 0, .int 0, .int 0, .int 1]))]) [0, 1] (by decide) rfl
  refine W.widen (k := 0) (n := 0) (Nat.le_of_ble_eq_true rfl) (Nat.le_of_ble_eq_true rfl) ?_
  exact W.zret (v := 1) hx hb hr rfl (fun t ht hW => ⟨⟨1, [(x21, .inr (12, [.ref x22, .ref x23, .ref x24, .ref x25, .ref x26, .ref x27, .int 0])), (x20, .inr (14, [.ref x1, .ref x8, .ref x21, .ref x28, .ref x35, .int 0, .ref x36, .ref x37, .ref x38, .int 0, .int 0, .int 0, .int 0, .int 0, .int 0, .int 0, .int 1]))], rfl, ⟨rfl, rfl⟩, wq_B.of ht hP9 hD9⟩, hS.F ht⟩) hS.2.2 dX9_isModel_78
def vs_a_X9_listActive_0 : List Cond := .code yX9_listActive cX9_listActive 5 none :: ([.methodLink RX9 241 yX9_countsHeld, .instanceMethod yX9_countsHeld, .selects RX9 yX9_countsHeld yX9_countsHeld, .initialized RX9, .fieldLink RX9 276 "AnswerFold$Solver" "activeCount" "I", .fieldLink RX9 12 "AnswerFold$Solver" "checks" "LAnswerFold$Rows;"] ++ (vs_a_X9_countsHeld_0 ++ (u_ws RX9 TX9 17 ++ (u_ws RX7 TX7 7))))
theorem iv_a_X9_listActive_0_X7 : ∀ w ∈ u_ws RX7 TX7 7, w ∈ vs_a_X9_listActive_0 := (fun _ h => List.mem_cons_of_mem _ (List.mem_append_right _ (List.mem_append_right _ (List.mem_append_right _ (h)))))
theorem iv_a_X9_listActive_0_X9 : ∀ w ∈ u_ws RX9 TX9 17, w ∈ vs_a_X9_listActive_0 := (fun _ h => List.mem_cons_of_mem _ (List.mem_append_right _ (List.mem_append_right _ (List.mem_append_left _ h))))
set_option maxRecDepth 20000 in
theorem gv_a_X9_listActive_0_0 : GoodIn vs_a_X9_listActive_0 (wsV RX9 241 RX9 yX9_countsHeld vs_a_X9_countsHeld_0) := goodIn_app (goodIn_sub (by decide +kernel) (by decide +kernel)) (goodIn_sub (fun _ h => List.mem_cons_of_mem _ (List.mem_append_right _ (List.mem_append_left _ h))) (by decide +kernel))
set_option maxHeartbeats 4000000 in
set_option maxRecDepth 100000 in
theorem a_X9_listActive_0 (l : Launch) (D : va_G) (ty : Nat → ClassId) (td mi sz : Nat) (x21 : Nat) (x22 : Nat) (x23 : Nat) (x24 : Nat) (x25 : Nat) (x26 : Nat) (x27 : Nat) (x20 : Nat) (x1 : Nat) (x8 : Nat) (x28 : Nat) (x35 : Nat) (x36 : Nat) (x37 : Nat) (x38 : Nat) : Met l yX9_listActive vs_a_X9_listActive_0 { frames := 1, cells := 0, slots := 0, locals := 23 } (va_Pc [.ref x20, .int 0] (wq_P D ty td mi [(x21, .inr (12, [.ref x22, .ref x23, .ref x24, .ref x25, .ref x26, .ref x27, .int 0])), (x20, .inr (14, [.ref x1, .ref x8, .ref x21, .ref x28, .ref x35, .int 0, .ref x36, .ref x37, .ref x38, .int 0, .int 0, .int 0, .int 0, .int 0, .int 0, .int 0, .int 1]))] sz)) (va_Qv (fun u : va_W => ((u = [(x21, .inr (12, [.ref x22, .ref x23, .ref x24, .ref x25, .ref x26, .ref x27, .int 0])), (x20, .inr (14, [.ref x1, .ref x8, .ref x21, .ref x28, .ref x35, .int 0, .ref x36, .ref x37, .ref x38, .int 0, .int 0, .int 0, .int 0, .int 0, .int 0, .int 0, .int 1]))]))) (wq_B D (va_A [(x21, .inr (12, [.ref x22, .ref x23, .ref x24, .ref x25, .ref x26, .ref x27, .int 0])), (x20, .inr (14, [.ref x1, .ref x8, .ref x21, .ref x28, .ref x35, .int 0, .ref x36, .ref x37, .ref x38, .int 0, .int 0, .int 0, .int 0, .int 0, .int 0, .int 0, .int 1]))] sz)) (va_A [(x21, .inr (12, [.ref x22, .ref x23, .ref x24, .ref x25, .ref x26, .ref x27, .int 0])), (x20, .inr (14, [.ref x1, .ref x8, .ref x21, .ref x28, .ref x35, .int 0, .ref x36, .ref x37, .ref x38, .int 0, .int 0, .int 0, .int 0, .int 0, .int 0, .int 0, .int 1]))] sz)) 0 0 (va_A [(x21, .inr (12, [.ref x22, .ref x23, .ref x24, .ref x25, .ref x26, .ref x27, .int 0])), (x20, .inr (14, [.ref x1, .ref x8, .ref x21, .ref x28, .ref x35, .int 0, .ref x36, .ref x37, .ref x38, .int 0, .int 0, .int 0, .int 0, .int 0, .int 0, .int 0, .int 1]))] sz) := by
  refine Met.ofW (cc := cX9_listActive) (maxL := 5) (ret := none) (by decide) rfl ?_
  intro p e s m args below meth c s₁ B hml hv
  obtain ⟨rfl, hsz, hP, hK, hD0, hE⟩ := hv
  have hx := B.exec
  have hb := B.bytes
  have hr := B.returns
  have hts := atoms_spec (ws := vs_a_X9_listActive_0) B.pre
  have hown : s.vm.findClass RX9 = some m.cls := findClass_of_methodNamed B.named
  have hlocks := B.notSynchronized
  subst hsz
  have hD := hD0.self (sz := s.heap.size)
  generalize hAe : va_A [(x21, .inr (12, [.ref x22, .ref x23, .ref x24, .ref x25, .ref x26, .ref x27, .int 0])), (x20, .inr (14, [.ref x1, .ref x8, .ref x21, .ref x28, .ref x35, .int 0, .ref x36, .ref x37, .ref x38, .int 0, .int 0, .int 0, .int 0, .int 0, .int 0, .int 0, .int 1]))] s.heap.size = A at hD hE ⊢
  have hA : ∀ q : Nat, s.heap.size ≤ q → A q := fun q h => by rw [← hAe]; exact Or.inr h
  have hS : va_S A s.heap s.heap [] := va_S.rf
  have hP : va_P D vwCl [(x21, .inr (12, [.ref x22, .ref x23, .ref x24, .ref x25, .ref x26, .ref x27, .int 0])), (x20, .inr (14, [.ref x1, .ref x8, .ref x21, .ref x28, .ref x35, .int 0, .ref x36, .ref x37, .ref x38, .int 0, .int 0, .int 0, .int 0, .int 0, .int 0, .int 0, .int 1]))] s.heap := hP
  have hl := lv_entry ([.ref x20, .int 0]) (n := 5) (Nat.le_of_ble_eq_true rfl)
  rw [lg_entry_eq]
  generalize (lg_sl ([.ref x20, .int 0]) ++ List.replicate (5 - (lg_sl ([.ref x20, .int 0])).length) Slot.unset).toArray = ls at hl ⊢
  have hl : lv_has ls 5 [(0, .ref x20), (1, .int 0)] := hl
  refine lv_aload_n hx hb dX9_listActive_0 rfl (lv_at hl 0 rfl) ?_
  refine lv_iload_n hx hb dX9_listActive_1 rfl (lv_at hl 1 rfl) ?_
  refine wq_i (wc := [(x20, .inr (14, [.ref x1, .ref x8, .ref x21, .ref x28, .ref x35, .int 0, .ref x36, .ref x37, .ref x38, .int 0, .int 0, .int 0, .int 0, .int 0, .int 0, .int 0, .int 1]))]) (wr := [(x21, .inr (12, [.ref x22, .ref x23, .ref x24, .ref x25, .ref x26, .ref x27, .int 0]))]) (va_runV (As := [.int 0]) (rest := []) ⟨hx, hb, hml, hown, hts⟩ (a_X9_countsHeld_0 l D ty td mi s.heap.size x20 x1 x8 x21 x28 x35 x36 x37 x38) (cwV 1 hts gv_a_X9_listActive_0_0 rfl rfl rfl (by decide +kernel) ⟨(Nat.le_of_ble_eq_true rfl), (Nat.le_of_ble_eq_true rfl)⟩) (wq_preV hP hD hK hE hS hA [1] rfl (by decide) 1 14 rfl rfl) rfl rfl hl.1 rfl (lv_room (Nat.le_of_ble_eq_true rfl)) dX9_listActive_2 ⟨(Nat.le_of_ble_eq_true rfl), (Nat.le_of_ble_eq_true rfl)⟩) hS hA hP hD [1] [0] rfl rfl (by decide) (by decide) (fun r u H locs hw hP hD hS => ?_)
  obtain ⟨rfl, rfl⟩ := hw
  have hP : va_P D vwCl [(x21, .inr (12, [.ref x22, .ref x23, .ref x24, .ref x25, .ref x26, .ref x27, .int 0])), (x20, .inr (14, [.ref x1, .ref x8, .ref x21, .ref x28, .ref x35, .int 0, .ref x36, .ref x37, .ref x38, .int 0, .int 0, .int 0, .int 0, .int 0, .int 0, .int 0, .int 1]))] H := hP
  have hD : va_D A [(x21, .inr (12, [.ref x22, .ref x23, .ref x24, .ref x25, .ref x26, .ref x27, .int 0])), (x20, .inr (14, [.ref x1, .ref x8, .ref x21, .ref x28, .ref x35, .int 0, .ref x36, .ref x37, .ref x38, .int 0, .int 0, .int 0, .int 0, .int 0, .int 0, .int 0, .int 1]))] := hD
  refine W.widen (k := 0) (n := 0) (Nat.le_of_ble_eq_true rfl) (Nat.le_of_ble_eq_true rfl) ?_
  refine lv_istore_n (lv' := [(2, .int 1048575), (0, .ref x20), (1, .int 0)]) hx hb dX9_listActive_5 rfl hl (by decide) rfl (fun ls hl => ?_)
  refine lv_aload_n hx hb dX9_listActive_6 rfl (lv_at hl 1 rfl) ?_
  refine lv_iconst (v := 0) hx hb dX9_listActive_7 (by decide) ?_
  refine va_put (D := D) (ci := 14) (v := .int 0) (ty := tyX9 5) (C := RX9) (T := TX9) (N := 17) hx hb hts iv_a_X9_listActive_0_X9 tyX9 tyX9_ok nmX9 hown hK hP hD hS 1 rfl rfl 5 (by decide) (hts (.fieldLink RX9 276 "AnswerFold$Solver" "activeCount" "I") (by decide +kernel)) (fun _ h9 => h9) rfl (by decide +kernel) rfl rfl (Nat.le_of_ble_eq_true rfl) dX9_listActive_8 (fun H locs hP hD hS => ?_)
  have hP : va_P D vwCl [(x21, .inr (12, [.ref x22, .ref x23, .ref x24, .ref x25, .ref x26, .ref x27, .int 0])), (x20, .inr (14, [.ref x1, .ref x8, .ref x21, .ref x28, .ref x35, .int 0, .ref x36, .ref x37, .ref x38, .int 0, .int 0, .int 0, .int 0, .int 0, .int 0, .int 0, .int 1]))] H := hP
  have hD : va_D A [(x21, .inr (12, [.ref x22, .ref x23, .ref x24, .ref x25, .ref x26, .ref x27, .int 0])), (x20, .inr (14, [.ref x1, .ref x8, .ref x21, .ref x28, .ref x35, .int 0, .ref x36, .ref x37, .ref x38, .int 0, .int 0, .int 0, .int 0, .int 0, .int 0, .int 0, .int 1]))] := hD
  refine lv_iconst (v := 0) hx hb dX9_listActive_11 (by decide) ?_
  refine lv_istore_n (lv' := [(3, .int 0), (2, .int 1048575), (0, .ref x20), (1, .int 0)]) hx hb dX9_listActive_12 rfl hl (by decide) rfl (fun ls hl => ?_)
  refine lv_iload_n hx hb dX9_listActive_13 rfl (lv_at hl 0 rfl) ?_
  refine lv_aload_n hx hb dX9_listActive_14 rfl (lv_at hl 2 rfl) ?_
  refine va_get (D := D) (ci := 14) (v := .ref x21) (C := RX9) (T := TX9) (N := 17) hx hb hts iv_a_X9_listActive_0_X9 hown hK hP 1 rfl rfl 2 (by decide) (hts (.fieldLink RX9 12 "AnswerFold$Solver" "checks" "LAnswerFold$Rows;") (by decide +kernel)) (fun _ h9 => h9) rfl dX9_listActive_15 ?_
  refine va_getN (D := D) (ci := 12) (v := .int 0) (C := RX7) (T := TX7) (N := 7) hx hb hts iv_a_X9_listActive_0_X7 hown hK hP 0 rfl rfl 6 (by decide) (hE.at (.fieldLinkNest "AnswerFold$Solver" 93 "AnswerFold$Rows" "count" "I" "AnswerFold") (by decide +kernel)) (fun _ h9 => h9) rfl dX9_listActive_18 ?_
  refine lv_icmp_ge (tgt := 98) hx hb dX9_listActive_21 (by decide) (fun _ => ?_) (fun c0 => absurd (by decide) c0)
  have hP9 := hP.sub (ws' := [(x21, .inr (12, [.ref x22, .ref x23, .ref x24, .ref x25, .ref x26, .ref x27, .int 0])), (x20, .inr (14, [.ref x1, .ref x8, .ref x21, .ref x28, .ref x35, .int 0, .ref x36, .ref x37, .ref x38, .int 0, .int 0, .int 0, .int 0, .int 0, .int 0, .int 0, .int 1]))]) [0, 1] rfl
  have hD9 := hD.sub (ws' := [(x21, .inr (12, [.ref x22, .ref x23, .ref x24, .ref x25, .ref x26, .ref x27, .int 0])), (x20, .inr (14, [.ref x1, .ref x8, .ref x21, .ref x28, .ref x35, .int 0, .ref x36, .ref x37, .ref x38, .int 0, .int 0, .int 0, .int 0, .int 0, .int 0, .int 0, .int 1]))]) [0, 1] (by decide) rfl
  refine W.widen (k := 0) (n := 0) (Nat.le_of_ble_eq_true rfl) (Nat.le_of_ble_eq_true rfl) ?_
  exact W.vret hx hb hr (fun t ht hW => ⟨⟨[(x21, .inr (12, [.ref x22, .ref x23, .ref x24, .ref x25, .ref x26, .ref x27, .int 0])), (x20, .inr (14, [.ref x1, .ref x8, .ref x21, .ref x28, .ref x35, .int 0, .ref x36, .ref x37, .ref x38, .int 0, .int 0, .int 0, .int 0, .int 0, .int 0, .int 0, .int 1]))], rfl, rfl, wq_B.of ht hP9 hD9⟩, hS.F ht⟩) hS.2.2 dX9_listActive_98
def vs_a_X9_grow_0 : List Cond := .code yX9_grow cX9_grow 12 (some .int) :: ([.methodLink RX9 241 yX9_countsHeld, .instanceMethod yX9_countsHeld, .selects RX9 yX9_countsHeld yX9_countsHeld, .initialized RX9, .fieldLink RX9 276 "AnswerFold$Solver" "activeCount" "I"] ++ (vs_a_X9_countsHeld_0 ++ (u_ws RX9 TX9 17)))
theorem iv_a_X9_grow_0_X9 : ∀ w ∈ u_ws RX9 TX9 17, w ∈ vs_a_X9_grow_0 := (fun _ h => List.mem_cons_of_mem _ (List.mem_append_right _ (List.mem_append_right _ (h))))
set_option maxRecDepth 20000 in
theorem gv_a_X9_grow_0_0 : GoodIn vs_a_X9_grow_0 (wsV RX9 241 RX9 yX9_countsHeld vs_a_X9_countsHeld_0) := goodIn_app (goodIn_sub (by decide +kernel) (by decide +kernel)) (goodIn_sub (fun _ h => List.mem_cons_of_mem _ (List.mem_append_right _ (List.mem_append_left _ h))) (by decide +kernel))
set_option maxHeartbeats 4000000 in
set_option maxRecDepth 100000 in
theorem a_X9_grow_0 (l : Launch) (D : va_G) (ty : Nat → ClassId) (td mi sz : Nat) (x20 : Nat) (x1 : Nat) (x8 : Nat) (x21 : Nat) (x28 : Nat) (x35 : Nat) (x36 : Nat) (x37 : Nat) (x38 : Nat) : Met l yX9_grow vs_a_X9_grow_0 { frames := 1, cells := 0, slots := 0, locals := 23 } (va_Pc [.ref x20, .int 0, .int 0] (wq_P D ty td mi [(x20, .inr (14, [.ref x1, .ref x8, .ref x21, .ref x28, .ref x35, .int 0, .ref x36, .ref x37, .ref x38, .int 0, .int 0, .int 0, .int 0, .int 0, .int 0, .int 0, .int 1]))] sz)) (va_Qi (fun (r : Int32) (u : va_W) => (r = 0 ∧ (u = [(x20, .inr (14, [.ref x1, .ref x8, .ref x21, .ref x28, .ref x35, .int 0, .ref x36, .ref x37, .ref x38, .int 0, .int 0, .int 0, .int 0, .int 0, .int 0, .int 0, .int 1]))]))) (wq_B D (va_A [(x20, .inr (14, [.ref x1, .ref x8, .ref x21, .ref x28, .ref x35, .int 0, .ref x36, .ref x37, .ref x38, .int 0, .int 0, .int 0, .int 0, .int 0, .int 0, .int 0, .int 1]))] sz)) (va_A [(x20, .inr (14, [.ref x1, .ref x8, .ref x21, .ref x28, .ref x35, .int 0, .ref x36, .ref x37, .ref x38, .int 0, .int 0, .int 0, .int 0, .int 0, .int 0, .int 0, .int 1]))] sz)) 0 0 (va_A [(x20, .inr (14, [.ref x1, .ref x8, .ref x21, .ref x28, .ref x35, .int 0, .ref x36, .ref x37, .ref x38, .int 0, .int 0, .int 0, .int 0, .int 0, .int 0, .int 0, .int 1]))] sz) := by
  refine Met.ofW (cc := cX9_grow) (maxL := 12) (ret := (some .int)) (by decide) rfl ?_
  intro p e s m args below meth c s₁ B hml hv
  obtain ⟨rfl, hsz, hP, hK, hD0, hE⟩ := hv
  have hx := B.exec
  have hb := B.bytes
  have hr := B.returns
  have hts := atoms_spec (ws := vs_a_X9_grow_0) B.pre
  have hown : s.vm.findClass RX9 = some m.cls := findClass_of_methodNamed B.named
  have hlocks := B.notSynchronized
  subst hsz
  have hD := hD0.self (sz := s.heap.size)
  generalize hAe : va_A [(x20, .inr (14, [.ref x1, .ref x8, .ref x21, .ref x28, .ref x35, .int 0, .ref x36, .ref x37, .ref x38, .int 0, .int 0, .int 0, .int 0, .int 0, .int 0, .int 0, .int 1]))] s.heap.size = A at hD hE ⊢
  have hA : ∀ q : Nat, s.heap.size ≤ q → A q := fun q h => by rw [← hAe]; exact Or.inr h
  have hS : va_S A s.heap s.heap [] := va_S.rf
  have hP : va_P D vwCl [(x20, .inr (14, [.ref x1, .ref x8, .ref x21, .ref x28, .ref x35, .int 0, .ref x36, .ref x37, .ref x38, .int 0, .int 0, .int 0, .int 0, .int 0, .int 0, .int 0, .int 1]))] s.heap := hP
  have hl := lv_entry ([.ref x20, .int 0, .int 0]) (n := 12) (Nat.le_of_ble_eq_true rfl)
  rw [lg_entry_eq]
  generalize (lg_sl ([.ref x20, .int 0, .int 0]) ++ List.replicate (12 - (lg_sl ([.ref x20, .int 0, .int 0])).length) Slot.unset).toArray = ls at hl ⊢
  have hl : lv_has ls 12 [(0, .ref x20), (1, .int 0), (2, .int 0)] := hl
  refine lv_iload_n hx hb dX9_grow_0 rfl (lv_at hl 1 rfl) ?_
  refine lv_istore_n (lv' := [(3, .int 0), (0, .ref x20), (1, .int 0), (2, .int 0)]) hx hb dX9_grow_1 rfl hl (by decide) rfl (fun ls hl => ?_)
  refine lv_iconst (v := 1) hx hb dX9_grow_2 (by decide) ?_
  refine lv_istore (lv' := [(4, .int 1), (3, .int 0), (0, .ref x20), (1, .int 0), (2, .int 0)]) hx hb dX9_grow_3 hl (by decide) rfl (fun ls hl => ?_)
  refine lv_iconst (v := 0) hx hb dX9_grow_5 (by decide) ?_
  refine lv_istore (lv' := [(5, .int 0), (4, .int 1), (3, .int 0), (0, .ref x20), (1, .int 0), (2, .int 0)]) hx hb dX9_grow_6 hl (by decide) rfl (fun ls hl => ?_)
  refine lv_iload hx hb dX9_grow_8 (lv_at hl 1 rfl) ?_
  refine lv_if_eq (tgt := 158) hx hb dX9_grow_10 (by decide) (fun c0 => absurd c0 (by decide)) (fun _ => ?_)
  refine lv_iload hx hb dX9_grow_13 (lv_at hl 0 rfl) ?_
  refine lv_sipush (v := 1000) hx hb dX9_grow_15 (by decide) ?_
  refine lv_icmp_ge (tgt := 158) hx hb dX9_grow_18 (by decide) (fun c0 => absurd c0 (by decide)) (fun _ => ?_)
  refine lv_iload_n hx hb dX9_grow_21 rfl (lv_at hl 2 rfl) ?_
  refine lv_istore (lv' := [(6, .int 0), (5, .int 0), (4, .int 1), (3, .int 0), (0, .ref x20), (1, .int 0), (2, .int 0)]) hx hb dX9_grow_22 hl (by decide) rfl (fun ls hl => ?_)
  refine lv_aload_n hx hb dX9_grow_24 rfl (lv_at hl 4 rfl) ?_
  refine lv_iload_n hx hb dX9_grow_25 rfl (lv_at hl 3 rfl) ?_
  refine wq_i (wc := [(x20, .inr (14, [.ref x1, .ref x8, .ref x21, .ref x28, .ref x35, .int 0, .ref x36, .ref x37, .ref x38, .int 0, .int 0, .int 0, .int 0, .int 0, .int 0, .int 0, .int 1]))]) (wr := []) (va_runV (As := [.int 0]) (rest := []) ⟨hx, hb, hml, hown, hts⟩ (a_X9_countsHeld_0 l D ty td mi s.heap.size x20 x1 x8 x21 x28 x35 x36 x37 x38) (cwV 1 hts gv_a_X9_grow_0_0 rfl rfl rfl (by decide +kernel) ⟨(Nat.le_of_ble_eq_true rfl), (Nat.le_of_ble_eq_true rfl)⟩) (wq_preV hP hD hK hE hS hA [0] rfl (by decide) 0 14 rfl rfl) rfl rfl hl.1 rfl (lv_room (Nat.le_of_ble_eq_true rfl)) dX9_grow_26 ⟨(Nat.le_of_ble_eq_true rfl), (Nat.le_of_ble_eq_true rfl)⟩) hS hA hP hD [0] [] rfl rfl (by decide) (by decide) (fun r u H locs hw hP hD hS => ?_)
  obtain ⟨rfl, rfl⟩ := hw
  have hP : va_P D vwCl [(x20, .inr (14, [.ref x1, .ref x8, .ref x21, .ref x28, .ref x35, .int 0, .ref x36, .ref x37, .ref x38, .int 0, .int 0, .int 0, .int 0, .int 0, .int 0, .int 0, .int 1]))] H := hP
  have hD : va_D A [(x20, .inr (14, [.ref x1, .ref x8, .ref x21, .ref x28, .ref x35, .int 0, .ref x36, .ref x37, .ref x38, .int 0, .int 0, .int 0, .int 0, .int 0, .int 0, .int 0, .int 1]))] := hD
  refine W.widen (k := 0) (n := 0) (Nat.le_of_ble_eq_true rfl) (Nat.le_of_ble_eq_true rfl) ?_
  refine lv_istore (lv' := [(7, .int 1048575), (6, .int 0), (5, .int 0), (4, .int 1), (3, .int 0), (0, .ref x20), (1, .int 0), (2, .int 0)]) hx hb dX9_grow_29 hl (by decide) rfl (fun ls hl => ?_)
  refine lv_iconst (v := 0) hx hb dX9_grow_31 (by decide) ?_
  refine lv_istore (lv' := [(8, .int 0), (7, .int 1048575), (6, .int 0), (5, .int 0), (4, .int 1), (3, .int 0), (0, .ref x20), (1, .int 0), (2, .int 0)]) hx hb dX9_grow_32 hl (by decide) rfl (fun ls hl => ?_)
  refine lv_iload hx hb dX9_grow_34 (lv_at hl 0 rfl) ?_
  refine lv_aload_n hx hb dX9_grow_36 rfl (lv_at hl 6 rfl) ?_
  refine va_get (D := D) (ci := 14) (v := .int 0) (C := RX9) (T := TX9) (N := 17) hx hb hts iv_a_X9_grow_0_X9 hown hK hP 0 rfl rfl 5 (by decide) (hts (.fieldLink RX9 276 "AnswerFold$Solver" "activeCount" "I") (by decide +kernel)) (fun _ h9 => h9) rfl dX9_grow_37 ?_
  refine lv_icmp_ge (tgt := 139) hx hb dX9_grow_40 (by decide) (fun _ => ?_) (fun c0 => absurd (by decide) c0)
  refine lv_iload_n hx hb dX9_grow_139 rfl (lv_at hl 5 rfl) ?_
  refine lv_iload hx hb dX9_grow_140 (lv_at hl 2 rfl) ?_
  refine lv_icmp_eq (tgt := 149) hx hb dX9_grow_142 (by decide) (fun _ => ?_) (fun c0 => absurd (by decide) c0)
  refine lv_iconst (v := 0) hx hb dX9_grow_149 (by decide) ?_
  refine lv_istore (lv' := [(4, .int 0), (8, .int 0), (7, .int 1048575), (6, .int 0), (5, .int 0), (3, .int 0), (0, .ref x20), (1, .int 0), (2, .int 0)]) hx hb dX9_grow_150 hl (by decide) rfl (fun ls hl => ?_)
  refine lv_iinc (v := 1) (lv' := [(5, .int 1), (4, .int 0), (8, .int 0), (7, .int 1048575), (6, .int 0), (3, .int 0), (0, .ref x20), (1, .int 0), (2, .int 0)]) hx hb dX9_grow_152 hl (k := 4) rfl (by decide) (by decide) rfl (fun ls hl => ?_)
  refine lv_goto (tgt := 8) hx hb dX9_grow_155 (by decide) ?_
  refine lv_iload hx hb dX9_grow_8 (lv_at hl 1 rfl) ?_
  refine lv_if_eq (tgt := 158) hx hb dX9_grow_10 (by decide) (fun _ => ?_) (fun c0 => absurd (by decide) c0)
  refine lv_iload_n hx hb dX9_grow_158 rfl (lv_at hl 5 rfl) ?_
  have hP9 := hP.sub (ws' := [(x20, .inr (14, [.ref x1, .ref x8, .ref x21, .ref x28, .ref x35, .int 0, .ref x36, .ref x37, .ref x38, .int 0, .int 0, .int 0, .int 0, .int 0, .int 0, .int 0, .int 1]))]) [0] rfl
  have hD9 := hD.sub (ws' := [(x20, .inr (14, [.ref x1, .ref x8, .ref x21, .ref x28, .ref x35, .int 0, .ref x36, .ref x37, .ref x38, .int 0, .int 0, .int 0, .int 0, .int 0, .int 0, .int 0, .int 1]))]) [0] (by decide) rfl
  refine W.widen (k := 0) (n := 0) (Nat.le_of_ble_eq_true rfl) (Nat.le_of_ble_eq_true rfl) ?_
  exact W.iret (v := 0) hx hb hr (fun t ht hW => ⟨⟨0, [(x20, .inr (14, [.ref x1, .ref x8, .ref x21, .ref x28, .ref x35, .int 0, .ref x36, .ref x37, .ref x38, .int 0, .int 0, .int 0, .int 0, .int 0, .int 0, .int 0, .int 1]))], rfl, ⟨rfl, rfl⟩, wq_B.of ht hP9 hD9⟩, hS.F ht⟩) hS.2.2 dX9_grow_159
def vs_a_X9_headsToSplit_0 : List Cond := .code yX9_headsToSplit cX9_headsToSplit 7 (some .int) :: ([.methodLink RX9 241 yX9_countsHeld, .instanceMethod yX9_countsHeld, .selects RX9 yX9_countsHeld yX9_countsHeld, .initialized RX9, .fieldLink RX9 276 "AnswerFold$Solver" "activeCount" "I"] ++ (vs_a_X9_countsHeld_0 ++ (u_ws RX9 TX9 17)))
theorem iv_a_X9_headsToSplit_0_X9 : ∀ w ∈ u_ws RX9 TX9 17, w ∈ vs_a_X9_headsToSplit_0 := (fun _ h => List.mem_cons_of_mem _ (List.mem_append_right _ (List.mem_append_right _ (h))))
set_option maxRecDepth 20000 in
theorem gv_a_X9_headsToSplit_0_0 : GoodIn vs_a_X9_headsToSplit_0 (wsV RX9 241 RX9 yX9_countsHeld vs_a_X9_countsHeld_0) := goodIn_app (goodIn_sub (by decide +kernel) (by decide +kernel)) (goodIn_sub (fun _ h => List.mem_cons_of_mem _ (List.mem_append_right _ (List.mem_append_left _ h))) (by decide +kernel))
set_option maxHeartbeats 4000000 in
set_option maxRecDepth 100000 in
theorem a_X9_headsToSplit_0 (l : Launch) (D : va_G) (ty : Nat → ClassId) (td mi sz : Nat) (x20 : Nat) (x1 : Nat) (x8 : Nat) (x21 : Nat) (x28 : Nat) (x35 : Nat) (x36 : Nat) (x37 : Nat) (x38 : Nat) : Met l yX9_headsToSplit vs_a_X9_headsToSplit_0 { frames := 1, cells := 0, slots := 0, locals := 23 } (va_Pc [.ref x20, .int 0, .int 0] (wq_P D ty td mi [(x20, .inr (14, [.ref x1, .ref x8, .ref x21, .ref x28, .ref x35, .int 0, .ref x36, .ref x37, .ref x38, .int 0, .int 0, .int 0, .int 0, .int 0, .int 0, .int 0, .int 1]))] sz)) (va_Qi (fun (r : Int32) (u : va_W) => (r = 0 ∧ (u = [(x20, .inr (14, [.ref x1, .ref x8, .ref x21, .ref x28, .ref x35, .int 0, .ref x36, .ref x37, .ref x38, .int 0, .int 0, .int 0, .int 0, .int 0, .int 0, .int 0, .int 1]))]))) (wq_B D (va_A [(x20, .inr (14, [.ref x1, .ref x8, .ref x21, .ref x28, .ref x35, .int 0, .ref x36, .ref x37, .ref x38, .int 0, .int 0, .int 0, .int 0, .int 0, .int 0, .int 0, .int 1]))] sz)) (va_A [(x20, .inr (14, [.ref x1, .ref x8, .ref x21, .ref x28, .ref x35, .int 0, .ref x36, .ref x37, .ref x38, .int 0, .int 0, .int 0, .int 0, .int 0, .int 0, .int 0, .int 1]))] sz)) 0 0 (va_A [(x20, .inr (14, [.ref x1, .ref x8, .ref x21, .ref x28, .ref x35, .int 0, .ref x36, .ref x37, .ref x38, .int 0, .int 0, .int 0, .int 0, .int 0, .int 0, .int 0, .int 1]))] sz) := by
  refine Met.ofW (cc := cX9_headsToSplit) (maxL := 7) (ret := (some .int)) (by decide) rfl ?_
  intro p e s m args below meth c s₁ B hml hv
  obtain ⟨rfl, hsz, hP, hK, hD0, hE⟩ := hv
  have hx := B.exec
  have hb := B.bytes
  have hr := B.returns
  have hts := atoms_spec (ws := vs_a_X9_headsToSplit_0) B.pre
  have hown : s.vm.findClass RX9 = some m.cls := findClass_of_methodNamed B.named
  have hlocks := B.notSynchronized
  subst hsz
  have hD := hD0.self (sz := s.heap.size)
  generalize hAe : va_A [(x20, .inr (14, [.ref x1, .ref x8, .ref x21, .ref x28, .ref x35, .int 0, .ref x36, .ref x37, .ref x38, .int 0, .int 0, .int 0, .int 0, .int 0, .int 0, .int 0, .int 1]))] s.heap.size = A at hD hE ⊢
  have hA : ∀ q : Nat, s.heap.size ≤ q → A q := fun q h => by rw [← hAe]; exact Or.inr h
  have hS : va_S A s.heap s.heap [] := va_S.rf
  have hP : va_P D vwCl [(x20, .inr (14, [.ref x1, .ref x8, .ref x21, .ref x28, .ref x35, .int 0, .ref x36, .ref x37, .ref x38, .int 0, .int 0, .int 0, .int 0, .int 0, .int 0, .int 0, .int 1]))] s.heap := hP
  have hl := lv_entry ([.ref x20, .int 0, .int 0]) (n := 7) (Nat.le_of_ble_eq_true rfl)
  rw [lg_entry_eq]
  generalize (lg_sl ([.ref x20, .int 0, .int 0]) ++ List.replicate (7 - (lg_sl ([.ref x20, .int 0, .int 0])).length) Slot.unset).toArray = ls at hl ⊢
  have hl : lv_has ls 7 [(0, .ref x20), (1, .int 0), (2, .int 0)] := hl
  refine lv_aload_n hx hb dX9_headsToSplit_0 rfl (lv_at hl 0 rfl) ?_
  refine lv_iload_n hx hb dX9_headsToSplit_1 rfl (lv_at hl 1 rfl) ?_
  refine wq_i (wc := [(x20, .inr (14, [.ref x1, .ref x8, .ref x21, .ref x28, .ref x35, .int 0, .ref x36, .ref x37, .ref x38, .int 0, .int 0, .int 0, .int 0, .int 0, .int 0, .int 0, .int 1]))]) (wr := []) (va_runV (As := [.int 0]) (rest := []) ⟨hx, hb, hml, hown, hts⟩ (a_X9_countsHeld_0 l D ty td mi s.heap.size x20 x1 x8 x21 x28 x35 x36 x37 x38) (cwV 1 hts gv_a_X9_headsToSplit_0_0 rfl rfl rfl (by decide +kernel) ⟨(Nat.le_of_ble_eq_true rfl), (Nat.le_of_ble_eq_true rfl)⟩) (wq_preV hP hD hK hE hS hA [0] rfl (by decide) 0 14 rfl rfl) rfl rfl hl.1 rfl (lv_room (Nat.le_of_ble_eq_true rfl)) dX9_headsToSplit_2 ⟨(Nat.le_of_ble_eq_true rfl), (Nat.le_of_ble_eq_true rfl)⟩) hS hA hP hD [0] [] rfl rfl (by decide) (by decide) (fun r u H locs hw hP hD hS => ?_)
  obtain ⟨rfl, rfl⟩ := hw
  have hP : va_P D vwCl [(x20, .inr (14, [.ref x1, .ref x8, .ref x21, .ref x28, .ref x35, .int 0, .ref x36, .ref x37, .ref x38, .int 0, .int 0, .int 0, .int 0, .int 0, .int 0, .int 0, .int 1]))] H := hP
  have hD : va_D A [(x20, .inr (14, [.ref x1, .ref x8, .ref x21, .ref x28, .ref x35, .int 0, .ref x36, .ref x37, .ref x38, .int 0, .int 0, .int 0, .int 0, .int 0, .int 0, .int 0, .int 1]))] := hD
  refine W.widen (k := 0) (n := 0) (Nat.le_of_ble_eq_true rfl) (Nat.le_of_ble_eq_true rfl) ?_
  refine lv_istore_n (lv' := [(3, .int 1048575), (0, .ref x20), (1, .int 0), (2, .int 0)]) hx hb dX9_headsToSplit_5 rfl hl (by decide) rfl (fun ls hl => ?_)
  refine lv_iconst (v := 0) hx hb dX9_headsToSplit_6 (by decide) ?_
  refine lv_istore (lv' := [(4, .int 0), (3, .int 1048575), (0, .ref x20), (1, .int 0), (2, .int 0)]) hx hb dX9_headsToSplit_7 hl (by decide) rfl (fun ls hl => ?_)
  refine lv_iload hx hb dX9_headsToSplit_9 (lv_at hl 0 rfl) ?_
  refine lv_aload_n hx hb dX9_headsToSplit_11 rfl (lv_at hl 2 rfl) ?_
  refine va_get (D := D) (ci := 14) (v := .int 0) (C := RX9) (T := TX9) (N := 17) hx hb hts iv_a_X9_headsToSplit_0_X9 hown hK hP 0 rfl rfl 5 (by decide) (hts (.fieldLink RX9 276 "AnswerFold$Solver" "activeCount" "I") (by decide +kernel)) (fun _ h9 => h9) rfl dX9_headsToSplit_12 ?_
  refine lv_icmp_ge (tgt := 87) hx hb dX9_headsToSplit_15 (by decide) (fun _ => ?_) (fun c0 => absurd (by decide) c0)
  refine lv_iconst (v := 0) hx hb dX9_headsToSplit_87 (by decide) ?_
  have hP9 := hP.sub (ws' := [(x20, .inr (14, [.ref x1, .ref x8, .ref x21, .ref x28, .ref x35, .int 0, .ref x36, .ref x37, .ref x38, .int 0, .int 0, .int 0, .int 0, .int 0, .int 0, .int 0, .int 1]))]) [0] rfl
  have hD9 := hD.sub (ws' := [(x20, .inr (14, [.ref x1, .ref x8, .ref x21, .ref x28, .ref x35, .int 0, .ref x36, .ref x37, .ref x38, .int 0, .int 0, .int 0, .int 0, .int 0, .int 0, .int 0, .int 1]))]) [0] (by decide) rfl
  refine W.widen (k := 0) (n := 0) (Nat.le_of_ble_eq_true rfl) (Nat.le_of_ble_eq_true rfl) ?_
  exact W.iret (v := 0) hx hb hr (fun t ht hW => ⟨⟨0, [(x20, .inr (14, [.ref x1, .ref x8, .ref x21, .ref x28, .ref x35, .int 0, .ref x36, .ref x37, .ref x38, .int 0, .int 0, .int 0, .int 0, .int 0, .int 0, .int 0, .int 1]))], rfl, ⟨rfl, rfl⟩, wq_B.of ht hP9 hD9⟩, hS.F ht⟩) hS.2.2 dX9_headsToSplit_88
def vs_a_X9_hasSmaller_0 : List Cond := .code yX9_hasSmaller cX9_hasSmaller 7 (some .boolean) :: ([.methodLink RX9 266 yX9_listActive, .instanceMethod yX9_listActive, .selects RX9 yX9_listActive yX9_listActive, .initialized RX9, .fieldLink RX9 31 "AnswerFold$Solver" "branches" "[I", .fieldLink RX9 75 "AnswerFold$Solver" "freeBits" "I", .constant RX9 269 1000000, .methodLink RX9 270 yX9_grow, .instanceMethod yX9_grow, .selects RX9 yX9_grow yX9_grow, .methodLink RX9 273 yX9_headsToSplit, .instanceMethod yX9_headsToSplit, .selects RX9 yX9_headsToSplit yX9_headsToSplit] ++ (vs_a_X9_listActive_0 ++ (u_ws RX9 TX9 17 ++ (vs_a_X9_grow_0 ++ (vs_a_X9_headsToSplit_0)))))
theorem iv_a_X9_hasSmaller_0_X9 : ∀ w ∈ u_ws RX9 TX9 17, w ∈ vs_a_X9_hasSmaller_0 := (fun _ h => List.mem_cons_of_mem _ (List.mem_append_right _ (List.mem_append_right _ (List.mem_append_left _ h))))
set_option maxRecDepth 20000 in
theorem gv_a_X9_hasSmaller_0_0 : GoodIn vs_a_X9_hasSmaller_0 (wsV RX9 266 RX9 yX9_listActive vs_a_X9_listActive_0) := goodIn_app (goodIn_sub (by decide +kernel) (by decide +kernel)) (goodIn_sub (fun _ h => List.mem_cons_of_mem _ (List.mem_append_right _ (List.mem_append_left _ h))) (by decide +kernel))
set_option maxRecDepth 20000 in
theorem gv_a_X9_hasSmaller_0_1 : GoodIn vs_a_X9_hasSmaller_0 (wsV RX9 270 RX9 yX9_grow vs_a_X9_grow_0) := goodIn_app (goodIn_sub (by decide +kernel) (by decide +kernel)) (goodIn_sub (fun _ h => List.mem_cons_of_mem _ (List.mem_append_right _ (List.mem_append_right _ (List.mem_append_right _ (List.mem_append_left _ h))))) (by decide +kernel))
set_option maxRecDepth 20000 in
theorem gv_a_X9_hasSmaller_0_2 : GoodIn vs_a_X9_hasSmaller_0 (wsV RX9 273 RX9 yX9_headsToSplit vs_a_X9_headsToSplit_0) := goodIn_app (goodIn_sub (by decide +kernel) (by decide +kernel)) (goodIn_sub (fun _ h => List.mem_cons_of_mem _ (List.mem_append_right _ (List.mem_append_right _ (List.mem_append_right _ (List.mem_append_right _ (h)))))) (by decide +kernel))
set_option maxHeartbeats 4000000 in
set_option maxRecDepth 100000 in
theorem a_X9_hasSmaller_0 (l : Launch) (D : va_G) (ty : Nat → ClassId) (td mi sz : Nat) (x38 : Nat) (x21 : Nat) (x22 : Nat) (x23 : Nat) (x24 : Nat) (x25 : Nat) (x26 : Nat) (x27 : Nat) (x20 : Nat) (x1 : Nat) (x8 : Nat) (x28 : Nat) (x35 : Nat) (x36 : Nat) (x37 : Nat) : Met l yX9_hasSmaller vs_a_X9_hasSmaller_0 { frames := 2, cells := 0, slots := 0, locals := 54 } (va_Pc [.ref x20, .int 0] (wq_P D ty td mi [(x38, .inl (ty 0, 26, .inl (fun _ => 0))), (x21, .inr (12, [.ref x22, .ref x23, .ref x24, .ref x25, .ref x26, .ref x27, .int 0])), (x20, .inr (14, [.ref x1, .ref x8, .ref x21, .ref x28, .ref x35, .int 0, .ref x36, .ref x37, .ref x38, .int 0, .int 0, .int 0, .int 0, .int 0, .int 0, .int 0, .int 1]))] sz)) (va_Qi (fun (r : Int32) (u : va_W) => (r = 0 ∧ (u = [(x38, .inl (ty 0, 26, .inl (fun _ => 0))), (x21, .inr (12, [.ref x22, .ref x23, .ref x24, .ref x25, .ref x26, .ref x27, .int 0])), (x20, .inr (14, [.ref x1, .ref x8, .ref x21, .ref x28, .ref x35, .int 0, .ref x36, .ref x37, .ref x38, .int 0, .int 0, .int 0, .int 0, .int 0, .int 0, .int 0, .int 1]))]))) (wq_B D (va_A [(x38, .inl (ty 0, 26, .inl (fun _ => 0))), (x21, .inr (12, [.ref x22, .ref x23, .ref x24, .ref x25, .ref x26, .ref x27, .int 0])), (x20, .inr (14, [.ref x1, .ref x8, .ref x21, .ref x28, .ref x35, .int 0, .ref x36, .ref x37, .ref x38, .int 0, .int 0, .int 0, .int 0, .int 0, .int 0, .int 0, .int 1]))] sz)) (va_A [(x38, .inl (ty 0, 26, .inl (fun _ => 0))), (x21, .inr (12, [.ref x22, .ref x23, .ref x24, .ref x25, .ref x26, .ref x27, .int 0])), (x20, .inr (14, [.ref x1, .ref x8, .ref x21, .ref x28, .ref x35, .int 0, .ref x36, .ref x37, .ref x38, .int 0, .int 0, .int 0, .int 0, .int 0, .int 0, .int 0, .int 1]))] sz)) 0 0 (va_A [(x38, .inl (ty 0, 26, .inl (fun _ => 0))), (x21, .inr (12, [.ref x22, .ref x23, .ref x24, .ref x25, .ref x26, .ref x27, .int 0])), (x20, .inr (14, [.ref x1, .ref x8, .ref x21, .ref x28, .ref x35, .int 0, .ref x36, .ref x37, .ref x38, .int 0, .int 0, .int 0, .int 0, .int 0, .int 0, .int 0, .int 1]))] sz) := by
  refine Met.ofW (cc := cX9_hasSmaller) (maxL := 7) (ret := (some .boolean)) (by decide) rfl ?_
  intro p e s m args below meth c s₁ B hml hv
  obtain ⟨rfl, hsz, hP, hK, hD0, hE⟩ := hv
  have hx := B.exec
  have hb := B.bytes
  have hr := B.returns
  have hts := atoms_spec (ws := vs_a_X9_hasSmaller_0) B.pre
  have hown : s.vm.findClass RX9 = some m.cls := findClass_of_methodNamed B.named
  have hlocks := B.notSynchronized
  subst hsz
  have hD := hD0.self (sz := s.heap.size)
  generalize hAe : va_A [(x38, .inl (ty 0, 26, .inl (fun _ => 0))), (x21, .inr (12, [.ref x22, .ref x23, .ref x24, .ref x25, .ref x26, .ref x27, .int 0])), (x20, .inr (14, [.ref x1, .ref x8, .ref x21, .ref x28, .ref x35, .int 0, .ref x36, .ref x37, .ref x38, .int 0, .int 0, .int 0, .int 0, .int 0, .int 0, .int 0, .int 1]))] s.heap.size = A at hD hE ⊢
  have hA : ∀ q : Nat, s.heap.size ≤ q → A q := fun q h => by rw [← hAe]; exact Or.inr h
  have hS : va_S A s.heap s.heap [] := va_S.rf
  have hP : va_P D vwCl [(x38, .inl (ty 0, 26, .inl (fun _ => 0))), (x21, .inr (12, [.ref x22, .ref x23, .ref x24, .ref x25, .ref x26, .ref x27, .int 0])), (x20, .inr (14, [.ref x1, .ref x8, .ref x21, .ref x28, .ref x35, .int 0, .ref x36, .ref x37, .ref x38, .int 0, .int 0, .int 0, .int 0, .int 0, .int 0, .int 0, .int 1]))] s.heap := hP
  have hl := lv_entry ([.ref x20, .int 0]) (n := 7) (Nat.le_of_ble_eq_true rfl)
  rw [lg_entry_eq]
  generalize (lg_sl ([.ref x20, .int 0]) ++ List.replicate (7 - (lg_sl ([.ref x20, .int 0])).length) Slot.unset).toArray = ls at hl ⊢
  have hl : lv_has ls 7 [(0, .ref x20), (1, .int 0)] := hl
  refine lv_aload_n hx hb dX9_hasSmaller_0 rfl (lv_at hl 0 rfl) ?_
  refine lv_iload_n hx hb dX9_hasSmaller_1 rfl (lv_at hl 1 rfl) ?_
  refine wq_v (wc := [(x21, .inr (12, [.ref x22, .ref x23, .ref x24, .ref x25, .ref x26, .ref x27, .int 0])), (x20, .inr (14, [.ref x1, .ref x8, .ref x21, .ref x28, .ref x35, .int 0, .ref x36, .ref x37, .ref x38, .int 0, .int 0, .int 0, .int 0, .int 0, .int 0, .int 0, .int 1]))]) (wr := [(x38, .inl (ty 0, 26, .inl (fun _ => 0)))]) (va_runV (As := [.int 0]) (rest := []) ⟨hx, hb, hml, hown, hts⟩ (a_X9_listActive_0 l D ty td mi s.heap.size x21 x22 x23 x24 x25 x26 x27 x20 x1 x8 x28 x35 x36 x37 x38) (cwV 1 hts gv_a_X9_hasSmaller_0_0 rfl rfl rfl (by decide +kernel) ⟨(Nat.le_of_ble_eq_true rfl), (Nat.le_of_ble_eq_true rfl)⟩) (wq_preV hP hD hK hE hS hA [1, 2] rfl (by decide) 2 14 rfl rfl) rfl rfl hl.1 rfl (lv_room (Nat.le_of_ble_eq_true rfl)) dX9_hasSmaller_2 ⟨(Nat.le_of_ble_eq_true rfl), (Nat.le_of_ble_eq_true rfl)⟩) hS hA hP hD [1, 2] [0] rfl rfl (by decide) (by decide) (fun u H locs hw hP hD hS => ?_)
  obtain rfl := hw
  have hP : va_P D vwCl [(x38, .inl (ty 0, 26, .inl (fun _ => 0))), (x21, .inr (12, [.ref x22, .ref x23, .ref x24, .ref x25, .ref x26, .ref x27, .int 0])), (x20, .inr (14, [.ref x1, .ref x8, .ref x21, .ref x28, .ref x35, .int 0, .ref x36, .ref x37, .ref x38, .int 0, .int 0, .int 0, .int 0, .int 0, .int 0, .int 0, .int 1]))] H := hP
  have hD : va_D A [(x38, .inl (ty 0, 26, .inl (fun _ => 0))), (x21, .inr (12, [.ref x22, .ref x23, .ref x24, .ref x25, .ref x26, .ref x27, .int 0])), (x20, .inr (14, [.ref x1, .ref x8, .ref x21, .ref x28, .ref x35, .int 0, .ref x36, .ref x37, .ref x38, .int 0, .int 0, .int 0, .int 0, .int 0, .int 0, .int 0, .int 1]))] := hD
  refine W.widen (k := 0) (n := 0) (Nat.le_of_ble_eq_true rfl) (Nat.le_of_ble_eq_true rfl) ?_
  refine lv_aload_n hx hb dX9_hasSmaller_5 rfl (lv_at hl 0 rfl) ?_
  refine va_get (D := D) (ci := 14) (v := .ref x38) (C := RX9) (T := TX9) (N := 17) hx hb hts iv_a_X9_hasSmaller_0_X9 hown hK hP 2 rfl rfl 8 (by decide) (hts (.fieldLink RX9 31 "AnswerFold$Solver" "branches" "[I") (by decide +kernel)) (fun _ h9 => h9) rfl dX9_hasSmaller_6 ?_
  refine lv_iconst (v := 0) hx hb dX9_hasSmaller_9 (by decide) ?_
  refine lv_iload_n hx hb dX9_hasSmaller_10 rfl (lv_at hl 1 rfl) ?_
  refine lv_aload_n hx hb dX9_hasSmaller_11 rfl (lv_at hl 0 rfl) ?_
  refine va_get (D := D) (ci := 14) (v := .int 0) (C := RX9) (T := TX9) (N := 17) hx hb hts iv_a_X9_hasSmaller_0_X9 hown hK hP 2 rfl rfl 11 (by decide) (hts (.fieldLink RX9 75 "AnswerFold$Solver" "freeBits" "I") (by decide +kernel)) (fun _ h9 => h9) rfl dX9_hasSmaller_12 ?_
  refine lv_iand hx hb dX9_hasSmaller_15 ?_
  refine lv_topi (nm_r (e' := 0) (by decide) ?_)
  refine va_iast (D := D) hx hb hK hP hD hS 0 0 rfl rfl (vp_in_iff.mpr (by decide)) dX9_hasSmaller_16 (fun H locs hP hD hS => ?_)
  rw [wq_upd0] at hP hD
  have hP : va_P D vwCl [(x38, .inl (ty 0, 26, .inl (fun _ => 0))), (x21, .inr (12, [.ref x22, .ref x23, .ref x24, .ref x25, .ref x26, .ref x27, .int 0])), (x20, .inr (14, [.ref x1, .ref x8, .ref x21, .ref x28, .ref x35, .int 0, .ref x36, .ref x37, .ref x38, .int 0, .int 0, .int 0, .int 0, .int 0, .int 0, .int 0, .int 1]))] H := hP
  have hD : va_D A [(x38, .inl (ty 0, 26, .inl (fun _ => 0))), (x21, .inr (12, [.ref x22, .ref x23, .ref x24, .ref x25, .ref x26, .ref x27, .int 0])), (x20, .inr (14, [.ref x1, .ref x8, .ref x21, .ref x28, .ref x35, .int 0, .ref x36, .ref x37, .ref x38, .int 0, .int 0, .int 0, .int 0, .int 0, .int 0, .int 0, .int 1]))] := hD
  refine lv_iconst (v := 1) hx hb dX9_hasSmaller_17 (by decide) ?_
  refine lv_istore_n (lv' := [(2, .int 1), (0, .ref x20), (1, .int 0)]) hx hb dX9_hasSmaller_18 rfl hl (by decide) rfl (fun ls hl => ?_)
  refine lv_iconst (v := 0) hx hb dX9_hasSmaller_19 (by decide) ?_
  refine lv_istore_n (lv' := [(3, .int 0), (2, .int 1), (0, .ref x20), (1, .int 0)]) hx hb dX9_hasSmaller_20 rfl hl (by decide) rfl (fun ls hl => ?_)
  refine lv_iload_n hx hb dX9_hasSmaller_21 rfl (lv_at hl 1 rfl) ?_
  refine lv_if_le (tgt := 136) hx hb dX9_hasSmaller_22 (by decide) (fun c0 => absurd c0 (by decide)) (fun _ => ?_)
  refine lv_iload_n hx hb dX9_hasSmaller_25 rfl (lv_at hl 1 rfl) ?_
  refine lv_aload_n hx hb dX9_hasSmaller_26 rfl (lv_at hl 2 rfl) ?_
  refine va_get (D := D) (ci := 14) (v := .ref x38) (C := RX9) (T := TX9) (N := 17) hx hb hts iv_a_X9_hasSmaller_0_X9 hown hK hP 2 rfl rfl 8 (by decide) (hts (.fieldLink RX9 31 "AnswerFold$Solver" "branches" "[I") (by decide +kernel)) (fun _ h9 => h9) rfl dX9_hasSmaller_27 ?_
  refine va_alen (D := D) (v := 26) hx hb hK hP 0 0 rfl rfl (by first | decide | rfl) dX9_hasSmaller_30 ?_
  refine lv_icmp_ge (tgt := 136) hx hb dX9_hasSmaller_31 (by decide) (fun c0 => absurd c0 (by decide)) (fun _ => ?_)
  refine lv_iload_n hx hb dX9_hasSmaller_34 rfl (lv_at hl 0 rfl) ?_
  refine lv_ldcw (v := 1000000) hx hb hown (hts (.constant RX9 269 1000000) (by decide +kernel)) dX9_hasSmaller_35 ?_
  refine lv_icmp_ge (tgt := 136) hx hb dX9_hasSmaller_38 (by decide) (fun c0 => absurd c0 (by decide)) (fun _ => ?_)
  refine lv_iinc (v := 0) (lv' := [(2, .int 0), (3, .int 0), (0, .ref x20), (1, .int 0)]) hx hb dX9_hasSmaller_41 hl (k := 1) rfl (by decide) (by decide) rfl (fun ls hl => ?_)
  refine lv_aload_n hx hb dX9_hasSmaller_44 rfl (lv_at hl 2 rfl) ?_
  refine lv_aload_n hx hb dX9_hasSmaller_45 rfl (lv_at hl 2 rfl) ?_
  refine va_get (D := D) (ci := 14) (v := .ref x38) (C := RX9) (T := TX9) (N := 17) hx hb hts iv_a_X9_hasSmaller_0_X9 hown hK hP 2 rfl rfl 8 (by decide) (hts (.fieldLink RX9 31 "AnswerFold$Solver" "branches" "[I") (by decide +kernel)) (fun _ h9 => h9) rfl dX9_hasSmaller_46 ?_
  refine lv_iload_n hx hb dX9_hasSmaller_49 rfl (lv_at hl 0 rfl) ?_
  refine va_iald (D := D) hx hb hK hP 0 0 rfl rfl (vp_in_iff.mpr (by decide)) dX9_hasSmaller_50 ?_
  refine lv_topi (nm_r (e' := 0) (by first | rfl | decide | exact wq_sel hlt (by decide)) ?_)
  refine lv_iload_n hx hb dX9_hasSmaller_51 rfl (lv_at hl 3 rfl) ?_
  refine wq_i (wc := [(x20, .inr (14, [.ref x1, .ref x8, .ref x21, .ref x28, .ref x35, .int 0, .ref x36, .ref x37, .ref x38, .int 0, .int 0, .int 0, .int 0, .int 0, .int 0, .int 0, .int 1]))]) (wr := [(x38, .inl (ty 0, 26, .inl (fun _ => 0))), (x21, .inr (12, [.ref x22, .ref x23, .ref x24, .ref x25, .ref x26, .ref x27, .int 0]))]) (va_runV (As := [.int 0, .int 0]) (rest := []) ⟨hx, hb, hml, hown, hts⟩ (a_X9_grow_0 l D ty td mi H.size x20 x1 x8 x21 x28 x35 x36 x37 x38) (cwV 2 hts gv_a_X9_hasSmaller_0_1 rfl rfl rfl (by decide +kernel) ⟨(Nat.le_of_ble_eq_true rfl), (Nat.le_of_ble_eq_true rfl)⟩) (wq_preV hP hD hK hE hS hA [2] rfl (by decide) 2 14 rfl rfl) rfl rfl hl.1 rfl (lv_room (Nat.le_of_ble_eq_true rfl)) dX9_hasSmaller_52 ⟨(Nat.le_of_ble_eq_true rfl), (Nat.le_of_ble_eq_true rfl)⟩) hS hA hP hD [2] [0, 1] rfl rfl (by decide) (by decide) (fun r u H locs hw hP hD hS => ?_)
  obtain ⟨rfl, rfl⟩ := hw
  have hP : va_P D vwCl [(x38, .inl (ty 0, 26, .inl (fun _ => 0))), (x21, .inr (12, [.ref x22, .ref x23, .ref x24, .ref x25, .ref x26, .ref x27, .int 0])), (x20, .inr (14, [.ref x1, .ref x8, .ref x21, .ref x28, .ref x35, .int 0, .ref x36, .ref x37, .ref x38, .int 0, .int 0, .int 0, .int 0, .int 0, .int 0, .int 0, .int 1]))] H := hP
  have hD : va_D A [(x38, .inl (ty 0, 26, .inl (fun _ => 0))), (x21, .inr (12, [.ref x22, .ref x23, .ref x24, .ref x25, .ref x26, .ref x27, .int 0])), (x20, .inr (14, [.ref x1, .ref x8, .ref x21, .ref x28, .ref x35, .int 0, .ref x36, .ref x37, .ref x38, .int 0, .int 0, .int 0, .int 0, .int 0, .int 0, .int 0, .int 1]))] := hD
  refine W.widen (k := 0) (n := 0) (Nat.le_of_ble_eq_true rfl) (Nat.le_of_ble_eq_true rfl) ?_
  refine lv_istore (lv' := [(4, .int 0), (2, .int 0), (3, .int 0), (0, .ref x20), (1, .int 0)]) hx hb dX9_hasSmaller_55 hl (by decide) rfl (fun ls hl => ?_)
  refine lv_aload_n hx hb dX9_hasSmaller_57 rfl (lv_at hl 3 rfl) ?_
  refine lv_iload hx hb dX9_hasSmaller_58 (lv_at hl 0 rfl) ?_
  refine lv_iload_n hx hb dX9_hasSmaller_60 rfl (lv_at hl 4 rfl) ?_
  refine wq_i (wc := [(x20, .inr (14, [.ref x1, .ref x8, .ref x21, .ref x28, .ref x35, .int 0, .ref x36, .ref x37, .ref x38, .int 0, .int 0, .int 0, .int 0, .int 0, .int 0, .int 0, .int 1]))]) (wr := [(x38, .inl (ty 0, 26, .inl (fun _ => 0))), (x21, .inr (12, [.ref x22, .ref x23, .ref x24, .ref x25, .ref x26, .ref x27, .int 0]))]) (va_runV (As := [.int 0, .int 0]) (rest := []) ⟨hx, hb, hml, hown, hts⟩ (a_X9_headsToSplit_0 l D ty td mi H.size x20 x1 x8 x21 x28 x35 x36 x37 x38) (cwV 2 hts gv_a_X9_hasSmaller_0_2 rfl rfl rfl (by decide +kernel) ⟨(Nat.le_of_ble_eq_true rfl), (Nat.le_of_ble_eq_true rfl)⟩) (wq_preV hP hD hK hE hS hA [2] rfl (by decide) 2 14 rfl rfl) rfl rfl hl.1 rfl (lv_room (Nat.le_of_ble_eq_true rfl)) dX9_hasSmaller_61 ⟨(Nat.le_of_ble_eq_true rfl), (Nat.le_of_ble_eq_true rfl)⟩) hS hA hP hD [2] [0, 1] rfl rfl (by decide) (by decide) (fun r u H locs hw hP hD hS => ?_)
  obtain ⟨rfl, rfl⟩ := hw
  have hP : va_P D vwCl [(x38, .inl (ty 0, 26, .inl (fun _ => 0))), (x21, .inr (12, [.ref x22, .ref x23, .ref x24, .ref x25, .ref x26, .ref x27, .int 0])), (x20, .inr (14, [.ref x1, .ref x8, .ref x21, .ref x28, .ref x35, .int 0, .ref x36, .ref x37, .ref x38, .int 0, .int 0, .int 0, .int 0, .int 0, .int 0, .int 0, .int 1]))] H := hP
  have hD : va_D A [(x38, .inl (ty 0, 26, .inl (fun _ => 0))), (x21, .inr (12, [.ref x22, .ref x23, .ref x24, .ref x25, .ref x26, .ref x27, .int 0])), (x20, .inr (14, [.ref x1, .ref x8, .ref x21, .ref x28, .ref x35, .int 0, .ref x36, .ref x37, .ref x38, .int 0, .int 0, .int 0, .int 0, .int 0, .int 0, .int 0, .int 1]))] := hD
  refine W.widen (k := 0) (n := 0) (Nat.le_of_ble_eq_true rfl) (Nat.le_of_ble_eq_true rfl) ?_
  refine lv_istore (lv' := [(5, .int 0), (4, .int 0), (2, .int 0), (3, .int 0), (0, .ref x20), (1, .int 0)]) hx hb dX9_hasSmaller_64 hl (by decide) rfl (fun ls hl => ?_)
  refine lv_iload hx hb dX9_hasSmaller_66 (lv_at hl 0 rfl) ?_
  refine lv_if_ne (tgt := 79) hx hb dX9_hasSmaller_68 (by decide) (fun c0 => absurd (by decide) c0) (fun _ => ?_)
  refine lv_iload hx hb dX9_hasSmaller_71 (lv_at hl 1 rfl) ?_
  refine lv_iload_n hx hb dX9_hasSmaller_73 rfl (lv_at hl 5 rfl) ?_
  refine lv_icmp_eq (tgt := 130) hx hb dX9_hasSmaller_74 (by decide) (fun _ => ?_) (fun c0 => absurd (by decide) c0)
  refine lv_iinc (v := 1) (lv' := [(3, .int 1), (5, .int 0), (4, .int 0), (2, .int 0), (0, .ref x20), (1, .int 0)]) hx hb dX9_hasSmaller_130 hl (k := 3) rfl (by decide) (by decide) rfl (fun ls hl => ?_)
  refine lv_goto (tgt := 21) hx hb dX9_hasSmaller_133 (by decide) ?_
  refine lv_iload_n hx hb dX9_hasSmaller_21 rfl (lv_at hl 3 rfl) ?_
  refine lv_if_le (tgt := 136) hx hb dX9_hasSmaller_22 (by decide) (fun _ => ?_) (fun c0 => absurd (by decide) c0)
  refine lv_iconst (v := 0) hx hb dX9_hasSmaller_136 (by decide) ?_
  have hP9 := hP.sub (ws' := [(x38, .inl (ty 0, 26, .inl (fun _ => 0))), (x21, .inr (12, [.ref x22, .ref x23, .ref x24, .ref x25, .ref x26, .ref x27, .int 0])), (x20, .inr (14, [.ref x1, .ref x8, .ref x21, .ref x28, .ref x35, .int 0, .ref x36, .ref x37, .ref x38, .int 0, .int 0, .int 0, .int 0, .int 0, .int 0, .int 0, .int 1]))]) [0, 1, 2] rfl
  have hD9 := hD.sub (ws' := [(x38, .inl (ty 0, 26, .inl (fun _ => 0))), (x21, .inr (12, [.ref x22, .ref x23, .ref x24, .ref x25, .ref x26, .ref x27, .int 0])), (x20, .inr (14, [.ref x1, .ref x8, .ref x21, .ref x28, .ref x35, .int 0, .ref x36, .ref x37, .ref x38, .int 0, .int 0, .int 0, .int 0, .int 0, .int 0, .int 0, .int 1]))]) [0, 1, 2] (by decide) rfl
  refine W.widen (k := 0) (n := 0) (Nat.le_of_ble_eq_true rfl) (Nat.le_of_ble_eq_true rfl) ?_
  exact W.zret (v := 0) hx hb hr rfl (fun t ht hW => ⟨⟨0, [(x38, .inl (ty 0, 26, .inl (fun _ => 0))), (x21, .inr (12, [.ref x22, .ref x23, .ref x24, .ref x25, .ref x26, .ref x27, .int 0])), (x20, .inr (14, [.ref x1, .ref x8, .ref x21, .ref x28, .ref x35, .int 0, .ref x36, .ref x37, .ref x38, .int 0, .int 0, .int 0, .int 0, .int 0, .int 0, .int 0, .int 1]))], rfl, ⟨rfl, rfl⟩, wq_B.of ht hP9 hD9⟩, hS.F ht⟩) hS.2.2 dX9_hasSmaller_137
def vs_a_X9_costOf_0 : List Cond := .code yX9_costOf cX9_costOf 8 (some .long) :: ([.methodLink RX9 241 yX9_countsHeld, .instanceMethod yX9_countsHeld, .selects RX9 yX9_countsHeld yX9_countsHeld, .initialized RX9, .fieldLink RX9 18 "AnswerFold$Solver" "weaks" "LAnswerFold$Rows;"] ++ (vs_a_X9_countsHeld_0 ++ (u_ws RX9 TX9 17 ++ (u_ws RX7 TX7 7))))
theorem iv_a_X9_costOf_0_X7 : ∀ w ∈ u_ws RX7 TX7 7, w ∈ vs_a_X9_costOf_0 := (fun _ h => List.mem_cons_of_mem _ (List.mem_append_right _ (List.mem_append_right _ (List.mem_append_right _ (h)))))
theorem iv_a_X9_costOf_0_X9 : ∀ w ∈ u_ws RX9 TX9 17, w ∈ vs_a_X9_costOf_0 := (fun _ h => List.mem_cons_of_mem _ (List.mem_append_right _ (List.mem_append_right _ (List.mem_append_left _ h))))
set_option maxRecDepth 20000 in
theorem gv_a_X9_costOf_0_0 : GoodIn vs_a_X9_costOf_0 (wsV RX9 241 RX9 yX9_countsHeld vs_a_X9_countsHeld_0) := goodIn_app (goodIn_sub (by decide +kernel) (by decide +kernel)) (goodIn_sub (fun _ h => List.mem_cons_of_mem _ (List.mem_append_right _ (List.mem_append_left _ h))) (by decide +kernel))
set_option maxHeartbeats 4000000 in
set_option maxRecDepth 100000 in
theorem a_X9_costOf_0 (l : Launch) (D : va_G) (ty : Nat → ClassId) (td mi sz : Nat) (x28 : Nat) (x29 : Nat) (x30 : Nat) (x31 : Nat) (x32 : Nat) (x33 : Nat) (x34 : Nat) (x20 : Nat) (x1 : Nat) (x8 : Nat) (x21 : Nat) (x35 : Nat) (x36 : Nat) (x37 : Nat) (x38 : Nat) : Met l yX9_costOf vs_a_X9_costOf_0 { frames := 1, cells := 0, slots := 0, locals := 23 } (va_Pc [.ref x20, .int 0, .int 1] (wq_P D ty td mi [(x28, .inr (12, [.ref x29, .ref x30, .ref x31, .ref x32, .ref x33, .ref x34, .int 0])), (x20, .inr (14, [.ref x1, .ref x8, .ref x21, .ref x28, .ref x35, .int 0, .ref x36, .ref x37, .ref x38, .int 0, .int 0, .int 0, .int 0, .int 0, .int 0, .int 0, .int 1]))] sz)) (va_Ql (fun (r : Int64) (u : va_W) => (r = 0 ∧ (u = [(x28, .inr (12, [.ref x29, .ref x30, .ref x31, .ref x32, .ref x33, .ref x34, .int 0])), (x20, .inr (14, [.ref x1, .ref x8, .ref x21, .ref x28, .ref x35, .int 0, .ref x36, .ref x37, .ref x38, .int 0, .int 0, .int 0, .int 0, .int 0, .int 0, .int 0, .int 1]))]))) (wq_B D (va_A [(x28, .inr (12, [.ref x29, .ref x30, .ref x31, .ref x32, .ref x33, .ref x34, .int 0])), (x20, .inr (14, [.ref x1, .ref x8, .ref x21, .ref x28, .ref x35, .int 0, .ref x36, .ref x37, .ref x38, .int 0, .int 0, .int 0, .int 0, .int 0, .int 0, .int 0, .int 1]))] sz)) (va_A [(x28, .inr (12, [.ref x29, .ref x30, .ref x31, .ref x32, .ref x33, .ref x34, .int 0])), (x20, .inr (14, [.ref x1, .ref x8, .ref x21, .ref x28, .ref x35, .int 0, .ref x36, .ref x37, .ref x38, .int 0, .int 0, .int 0, .int 0, .int 0, .int 0, .int 0, .int 1]))] sz)) 0 0 (va_A [(x28, .inr (12, [.ref x29, .ref x30, .ref x31, .ref x32, .ref x33, .ref x34, .int 0])), (x20, .inr (14, [.ref x1, .ref x8, .ref x21, .ref x28, .ref x35, .int 0, .ref x36, .ref x37, .ref x38, .int 0, .int 0, .int 0, .int 0, .int 0, .int 0, .int 0, .int 1]))] sz) := by
  refine Met.ofW (cc := cX9_costOf) (maxL := 8) (ret := (some .long)) (by decide) rfl ?_
  intro p e s m args below meth c s₁ B hml hv
  obtain ⟨rfl, hsz, hP, hK, hD0, hE⟩ := hv
  have hx := B.exec
  have hb := B.bytes
  have hr := B.returns
  have hts := atoms_spec (ws := vs_a_X9_costOf_0) B.pre
  have hown : s.vm.findClass RX9 = some m.cls := findClass_of_methodNamed B.named
  have hlocks := B.notSynchronized
  subst hsz
  have hD := hD0.self (sz := s.heap.size)
  generalize hAe : va_A [(x28, .inr (12, [.ref x29, .ref x30, .ref x31, .ref x32, .ref x33, .ref x34, .int 0])), (x20, .inr (14, [.ref x1, .ref x8, .ref x21, .ref x28, .ref x35, .int 0, .ref x36, .ref x37, .ref x38, .int 0, .int 0, .int 0, .int 0, .int 0, .int 0, .int 0, .int 1]))] s.heap.size = A at hD hE ⊢
  have hA : ∀ q : Nat, s.heap.size ≤ q → A q := fun q h => by rw [← hAe]; exact Or.inr h
  have hS : va_S A s.heap s.heap [] := va_S.rf
  have hP : va_P D vwCl [(x28, .inr (12, [.ref x29, .ref x30, .ref x31, .ref x32, .ref x33, .ref x34, .int 0])), (x20, .inr (14, [.ref x1, .ref x8, .ref x21, .ref x28, .ref x35, .int 0, .ref x36, .ref x37, .ref x38, .int 0, .int 0, .int 0, .int 0, .int 0, .int 0, .int 0, .int 1]))] s.heap := hP
  have hl := lv_entry ([.ref x20, .int 0, .int 1]) (n := 8) (Nat.le_of_ble_eq_true rfl)
  rw [lg_entry_eq]
  generalize (lg_sl ([.ref x20, .int 0, .int 1]) ++ List.replicate (8 - (lg_sl ([.ref x20, .int 0, .int 1])).length) Slot.unset).toArray = ls at hl ⊢
  have hl : lv_has ls 8 [(0, .ref x20), (1, .int 0), (2, .int 1)] := hl
  refine lv_lconst (v := 0) hx hb dX9_costOf_0 (by decide) ?_
  refine lv_lstore_n (lv' := [(3, .long 0), (0, .ref x20), (1, .int 0), (2, .int 1)]) hx hb dX9_costOf_1 rfl hl (by decide) rfl (fun ls hl => ?_)
  refine lv_aload_n hx hb dX9_costOf_2 rfl (lv_at hl 1 rfl) ?_
  refine lv_iload_n hx hb dX9_costOf_3 rfl (lv_at hl 2 rfl) ?_
  refine wq_i (wc := [(x20, .inr (14, [.ref x1, .ref x8, .ref x21, .ref x28, .ref x35, .int 0, .ref x36, .ref x37, .ref x38, .int 0, .int 0, .int 0, .int 0, .int 0, .int 0, .int 0, .int 1]))]) (wr := [(x28, .inr (12, [.ref x29, .ref x30, .ref x31, .ref x32, .ref x33, .ref x34, .int 0]))]) (va_runV (As := [.int 0]) (rest := []) ⟨hx, hb, hml, hown, hts⟩ (a_X9_countsHeld_0 l D ty td mi s.heap.size x20 x1 x8 x21 x28 x35 x36 x37 x38) (cwV 1 hts gv_a_X9_costOf_0_0 rfl rfl rfl (by decide +kernel) ⟨(Nat.le_of_ble_eq_true rfl), (Nat.le_of_ble_eq_true rfl)⟩) (wq_preV hP hD hK hE hS hA [1] rfl (by decide) 1 14 rfl rfl) rfl rfl hl.1 rfl (lv_room (Nat.le_of_ble_eq_true rfl)) dX9_costOf_4 ⟨(Nat.le_of_ble_eq_true rfl), (Nat.le_of_ble_eq_true rfl)⟩) hS hA hP hD [1] [0] rfl rfl (by decide) (by decide) (fun r u H locs hw hP hD hS => ?_)
  obtain ⟨rfl, rfl⟩ := hw
  have hP : va_P D vwCl [(x28, .inr (12, [.ref x29, .ref x30, .ref x31, .ref x32, .ref x33, .ref x34, .int 0])), (x20, .inr (14, [.ref x1, .ref x8, .ref x21, .ref x28, .ref x35, .int 0, .ref x36, .ref x37, .ref x38, .int 0, .int 0, .int 0, .int 0, .int 0, .int 0, .int 0, .int 1]))] H := hP
  have hD : va_D A [(x28, .inr (12, [.ref x29, .ref x30, .ref x31, .ref x32, .ref x33, .ref x34, .int 0])), (x20, .inr (14, [.ref x1, .ref x8, .ref x21, .ref x28, .ref x35, .int 0, .ref x36, .ref x37, .ref x38, .int 0, .int 0, .int 0, .int 0, .int 0, .int 0, .int 0, .int 1]))] := hD
  refine W.widen (k := 0) (n := 0) (Nat.le_of_ble_eq_true rfl) (Nat.le_of_ble_eq_true rfl) ?_
  refine lv_istore (lv' := [(5, .int 1048575), (3, .long 0), (0, .ref x20), (1, .int 0), (2, .int 1)]) hx hb dX9_costOf_7 hl (by decide) rfl (fun ls hl => ?_)
  refine lv_iconst (v := 0) hx hb dX9_costOf_9 (by decide) ?_
  refine lv_istore (lv' := [(6, .int 0), (5, .int 1048575), (3, .long 0), (0, .ref x20), (1, .int 0), (2, .int 1)]) hx hb dX9_costOf_10 hl (by decide) rfl (fun ls hl => ?_)
  refine lv_iload hx hb dX9_costOf_12 (lv_at hl 0 rfl) ?_
  refine lv_aload_n hx hb dX9_costOf_14 rfl (lv_at hl 3 rfl) ?_
  refine va_get (D := D) (ci := 14) (v := .ref x28) (C := RX9) (T := TX9) (N := 17) hx hb hts iv_a_X9_costOf_0_X9 hown hK hP 1 rfl rfl 3 (by decide) (hts (.fieldLink RX9 18 "AnswerFold$Solver" "weaks" "LAnswerFold$Rows;") (by decide +kernel)) (fun _ h9 => h9) rfl dX9_costOf_15 ?_
  refine va_getN (D := D) (ci := 12) (v := .int 0) (C := RX7) (T := TX7) (N := 7) hx hb hts iv_a_X9_costOf_0_X7 hown hK hP 0 rfl rfl 6 (by decide) (hE.at (.fieldLinkNest "AnswerFold$Solver" 93 "AnswerFold$Rows" "count" "I" "AnswerFold") (by decide +kernel)) (fun _ h9 => h9) rfl dX9_costOf_18 ?_
  refine lv_icmp_ge (tgt := 86) hx hb dX9_costOf_21 (by decide) (fun _ => ?_) (fun c0 => absurd (by decide) c0)
  refine lv_lload_n hx hb dX9_costOf_86 rfl (lv_at hl 2 rfl) ?_
  have hP9 := hP.sub (ws' := [(x28, .inr (12, [.ref x29, .ref x30, .ref x31, .ref x32, .ref x33, .ref x34, .int 0])), (x20, .inr (14, [.ref x1, .ref x8, .ref x21, .ref x28, .ref x35, .int 0, .ref x36, .ref x37, .ref x38, .int 0, .int 0, .int 0, .int 0, .int 0, .int 0, .int 0, .int 1]))]) [0, 1] rfl
  have hD9 := hD.sub (ws' := [(x28, .inr (12, [.ref x29, .ref x30, .ref x31, .ref x32, .ref x33, .ref x34, .int 0])), (x20, .inr (14, [.ref x1, .ref x8, .ref x21, .ref x28, .ref x35, .int 0, .ref x36, .ref x37, .ref x38, .int 0, .int 0, .int 0, .int 0, .int 0, .int 0, .int 0, .int 1]))]) [0, 1] (by decide) rfl
  refine W.widen (k := 0) (n := 0) (Nat.le_of_ble_eq_true rfl) (Nat.le_of_ble_eq_true rfl) ?_
  exact W.lret (v := 0) hx hb hr (fun t ht hW => ⟨⟨0, [(x28, .inr (12, [.ref x29, .ref x30, .ref x31, .ref x32, .ref x33, .ref x34, .int 0])), (x20, .inr (14, [.ref x1, .ref x8, .ref x21, .ref x28, .ref x35, .int 0, .ref x36, .ref x37, .ref x38, .int 0, .int 0, .int 0, .int 0, .int 0, .int 0, .int 0, .int 1]))], rfl, ⟨rfl, rfl⟩, wq_B.of ht hP9 hD9⟩, hS.F ht⟩) hS.2.2 dX9_costOf_87
def vs_a_X9_costOf_1 : List Cond := .code yX9_costOf cX9_costOf 8 (some .long) :: ([.methodLink RX9 241 yX9_countsHeld, .instanceMethod yX9_countsHeld, .selects RX9 yX9_countsHeld yX9_countsHeld, .initialized RX9, .fieldLink RX9 18 "AnswerFold$Solver" "weaks" "LAnswerFold$Rows;"] ++ (vs_a_X9_countsHeld_0 ++ (u_ws RX9 TX9 17 ++ (u_ws RX7 TX7 7))))
theorem iv_a_X9_costOf_1_X7 : ∀ w ∈ u_ws RX7 TX7 7, w ∈ vs_a_X9_costOf_1 := (fun _ h => List.mem_cons_of_mem _ (List.mem_append_right _ (List.mem_append_right _ (List.mem_append_right _ (h)))))
theorem iv_a_X9_costOf_1_X9 : ∀ w ∈ u_ws RX9 TX9 17, w ∈ vs_a_X9_costOf_1 := (fun _ h => List.mem_cons_of_mem _ (List.mem_append_right _ (List.mem_append_right _ (List.mem_append_left _ h))))
set_option maxRecDepth 20000 in
theorem gv_a_X9_costOf_1_0 : GoodIn vs_a_X9_costOf_1 (wsV RX9 241 RX9 yX9_countsHeld vs_a_X9_countsHeld_0) := goodIn_app (goodIn_sub (by decide +kernel) (by decide +kernel)) (goodIn_sub (fun _ h => List.mem_cons_of_mem _ (List.mem_append_right _ (List.mem_append_left _ h))) (by decide +kernel))
set_option maxHeartbeats 4000000 in
set_option maxRecDepth 100000 in
theorem a_X9_costOf_1 (l : Launch) (D : va_G) (ty : Nat → ClassId) (td mi sz : Nat) (x28 : Nat) (x29 : Nat) (x30 : Nat) (x31 : Nat) (x32 : Nat) (x33 : Nat) (x34 : Nat) (x20 : Nat) (x1 : Nat) (x8 : Nat) (x21 : Nat) (x35 : Nat) (x36 : Nat) (x37 : Nat) (x38 : Nat) : Met l yX9_costOf vs_a_X9_costOf_1 { frames := 1, cells := 0, slots := 0, locals := 23 } (va_Pc [.ref x20, .int 0, .int 2] (wq_P D ty td mi [(x28, .inr (12, [.ref x29, .ref x30, .ref x31, .ref x32, .ref x33, .ref x34, .int 0])), (x20, .inr (14, [.ref x1, .ref x8, .ref x21, .ref x28, .ref x35, .int 0, .ref x36, .ref x37, .ref x38, .int 0, .int 0, .int 0, .int 0, .int 0, .int 0, .int 0, .int 1]))] sz)) (va_Ql (fun (r : Int64) (u : va_W) => (r = 0 ∧ (u = [(x28, .inr (12, [.ref x29, .ref x30, .ref x31, .ref x32, .ref x33, .ref x34, .int 0])), (x20, .inr (14, [.ref x1, .ref x8, .ref x21, .ref x28, .ref x35, .int 0, .ref x36, .ref x37, .ref x38, .int 0, .int 0, .int 0, .int 0, .int 0, .int 0, .int 0, .int 1]))]))) (wq_B D (va_A [(x28, .inr (12, [.ref x29, .ref x30, .ref x31, .ref x32, .ref x33, .ref x34, .int 0])), (x20, .inr (14, [.ref x1, .ref x8, .ref x21, .ref x28, .ref x35, .int 0, .ref x36, .ref x37, .ref x38, .int 0, .int 0, .int 0, .int 0, .int 0, .int 0, .int 0, .int 1]))] sz)) (va_A [(x28, .inr (12, [.ref x29, .ref x30, .ref x31, .ref x32, .ref x33, .ref x34, .int 0])), (x20, .inr (14, [.ref x1, .ref x8, .ref x21, .ref x28, .ref x35, .int 0, .ref x36, .ref x37, .ref x38, .int 0, .int 0, .int 0, .int 0, .int 0, .int 0, .int 0, .int 1]))] sz)) 0 0 (va_A [(x28, .inr (12, [.ref x29, .ref x30, .ref x31, .ref x32, .ref x33, .ref x34, .int 0])), (x20, .inr (14, [.ref x1, .ref x8, .ref x21, .ref x28, .ref x35, .int 0, .ref x36, .ref x37, .ref x38, .int 0, .int 0, .int 0, .int 0, .int 0, .int 0, .int 0, .int 1]))] sz) := by
  refine Met.ofW (cc := cX9_costOf) (maxL := 8) (ret := (some .long)) (by decide) rfl ?_
  intro p e s m args below meth c s₁ B hml hv
  obtain ⟨rfl, hsz, hP, hK, hD0, hE⟩ := hv
  have hx := B.exec
  have hb := B.bytes
  have hr := B.returns
  have hts := atoms_spec (ws := vs_a_X9_costOf_1) B.pre
  have hown : s.vm.findClass RX9 = some m.cls := findClass_of_methodNamed B.named
  have hlocks := B.notSynchronized
  subst hsz
  have hD := hD0.self (sz := s.heap.size)
  generalize hAe : va_A [(x28, .inr (12, [.ref x29, .ref x30, .ref x31, .ref x32, .ref x33, .ref x34, .int 0])), (x20, .inr (14, [.ref x1, .ref x8, .ref x21, .ref x28, .ref x35, .int 0, .ref x36, .ref x37, .ref x38, .int 0, .int 0, .int 0, .int 0, .int 0, .int 0, .int 0, .int 1]))] s.heap.size = A at hD hE ⊢
  have hA : ∀ q : Nat, s.heap.size ≤ q → A q := fun q h => by rw [← hAe]; exact Or.inr h
  have hS : va_S A s.heap s.heap [] := va_S.rf
  have hP : va_P D vwCl [(x28, .inr (12, [.ref x29, .ref x30, .ref x31, .ref x32, .ref x33, .ref x34, .int 0])), (x20, .inr (14, [.ref x1, .ref x8, .ref x21, .ref x28, .ref x35, .int 0, .ref x36, .ref x37, .ref x38, .int 0, .int 0, .int 0, .int 0, .int 0, .int 0, .int 0, .int 1]))] s.heap := hP
  have hl := lv_entry ([.ref x20, .int 0, .int 2]) (n := 8) (Nat.le_of_ble_eq_true rfl)
  rw [lg_entry_eq]
  generalize (lg_sl ([.ref x20, .int 0, .int 2]) ++ List.replicate (8 - (lg_sl ([.ref x20, .int 0, .int 2])).length) Slot.unset).toArray = ls at hl ⊢
  have hl : lv_has ls 8 [(0, .ref x20), (1, .int 0), (2, .int 2)] := hl
  refine lv_lconst (v := 0) hx hb dX9_costOf_0 (by decide) ?_
  refine lv_lstore_n (lv' := [(3, .long 0), (0, .ref x20), (1, .int 0), (2, .int 2)]) hx hb dX9_costOf_1 rfl hl (by decide) rfl (fun ls hl => ?_)
  refine lv_aload_n hx hb dX9_costOf_2 rfl (lv_at hl 1 rfl) ?_
  refine lv_iload_n hx hb dX9_costOf_3 rfl (lv_at hl 2 rfl) ?_
  refine wq_i (wc := [(x20, .inr (14, [.ref x1, .ref x8, .ref x21, .ref x28, .ref x35, .int 0, .ref x36, .ref x37, .ref x38, .int 0, .int 0, .int 0, .int 0, .int 0, .int 0, .int 0, .int 1]))]) (wr := [(x28, .inr (12, [.ref x29, .ref x30, .ref x31, .ref x32, .ref x33, .ref x34, .int 0]))]) (va_runV (As := [.int 0]) (rest := []) ⟨hx, hb, hml, hown, hts⟩ (a_X9_countsHeld_0 l D ty td mi s.heap.size x20 x1 x8 x21 x28 x35 x36 x37 x38) (cwV 1 hts gv_a_X9_costOf_1_0 rfl rfl rfl (by decide +kernel) ⟨(Nat.le_of_ble_eq_true rfl), (Nat.le_of_ble_eq_true rfl)⟩) (wq_preV hP hD hK hE hS hA [1] rfl (by decide) 1 14 rfl rfl) rfl rfl hl.1 rfl (lv_room (Nat.le_of_ble_eq_true rfl)) dX9_costOf_4 ⟨(Nat.le_of_ble_eq_true rfl), (Nat.le_of_ble_eq_true rfl)⟩) hS hA hP hD [1] [0] rfl rfl (by decide) (by decide) (fun r u H locs hw hP hD hS => ?_)
  obtain ⟨rfl, rfl⟩ := hw
  have hP : va_P D vwCl [(x28, .inr (12, [.ref x29, .ref x30, .ref x31, .ref x32, .ref x33, .ref x34, .int 0])), (x20, .inr (14, [.ref x1, .ref x8, .ref x21, .ref x28, .ref x35, .int 0, .ref x36, .ref x37, .ref x38, .int 0, .int 0, .int 0, .int 0, .int 0, .int 0, .int 0, .int 1]))] H := hP
  have hD : va_D A [(x28, .inr (12, [.ref x29, .ref x30, .ref x31, .ref x32, .ref x33, .ref x34, .int 0])), (x20, .inr (14, [.ref x1, .ref x8, .ref x21, .ref x28, .ref x35, .int 0, .ref x36, .ref x37, .ref x38, .int 0, .int 0, .int 0, .int 0, .int 0, .int 0, .int 0, .int 1]))] := hD
  refine W.widen (k := 0) (n := 0) (Nat.le_of_ble_eq_true rfl) (Nat.le_of_ble_eq_true rfl) ?_
  refine lv_istore (lv' := [(5, .int 1048575), (3, .long 0), (0, .ref x20), (1, .int 0), (2, .int 2)]) hx hb dX9_costOf_7 hl (by decide) rfl (fun ls hl => ?_)
  refine lv_iconst (v := 0) hx hb dX9_costOf_9 (by decide) ?_
  refine lv_istore (lv' := [(6, .int 0), (5, .int 1048575), (3, .long 0), (0, .ref x20), (1, .int 0), (2, .int 2)]) hx hb dX9_costOf_10 hl (by decide) rfl (fun ls hl => ?_)
  refine lv_iload hx hb dX9_costOf_12 (lv_at hl 0 rfl) ?_
  refine lv_aload_n hx hb dX9_costOf_14 rfl (lv_at hl 3 rfl) ?_
  refine va_get (D := D) (ci := 14) (v := .ref x28) (C := RX9) (T := TX9) (N := 17) hx hb hts iv_a_X9_costOf_1_X9 hown hK hP 1 rfl rfl 3 (by decide) (hts (.fieldLink RX9 18 "AnswerFold$Solver" "weaks" "LAnswerFold$Rows;") (by decide +kernel)) (fun _ h9 => h9) rfl dX9_costOf_15 ?_
  refine va_getN (D := D) (ci := 12) (v := .int 0) (C := RX7) (T := TX7) (N := 7) hx hb hts iv_a_X9_costOf_1_X7 hown hK hP 0 rfl rfl 6 (by decide) (hE.at (.fieldLinkNest "AnswerFold$Solver" 93 "AnswerFold$Rows" "count" "I" "AnswerFold") (by decide +kernel)) (fun _ h9 => h9) rfl dX9_costOf_18 ?_
  refine lv_icmp_ge (tgt := 86) hx hb dX9_costOf_21 (by decide) (fun _ => ?_) (fun c0 => absurd (by decide) c0)
  refine lv_lload_n hx hb dX9_costOf_86 rfl (lv_at hl 2 rfl) ?_
  have hP9 := hP.sub (ws' := [(x28, .inr (12, [.ref x29, .ref x30, .ref x31, .ref x32, .ref x33, .ref x34, .int 0])), (x20, .inr (14, [.ref x1, .ref x8, .ref x21, .ref x28, .ref x35, .int 0, .ref x36, .ref x37, .ref x38, .int 0, .int 0, .int 0, .int 0, .int 0, .int 0, .int 0, .int 1]))]) [0, 1] rfl
  have hD9 := hD.sub (ws' := [(x28, .inr (12, [.ref x29, .ref x30, .ref x31, .ref x32, .ref x33, .ref x34, .int 0])), (x20, .inr (14, [.ref x1, .ref x8, .ref x21, .ref x28, .ref x35, .int 0, .ref x36, .ref x37, .ref x38, .int 0, .int 0, .int 0, .int 0, .int 0, .int 0, .int 0, .int 1]))]) [0, 1] (by decide) rfl
  refine W.widen (k := 0) (n := 0) (Nat.le_of_ble_eq_true rfl) (Nat.le_of_ble_eq_true rfl) ?_
  exact W.lret (v := 0) hx hb hr (fun t ht hW => ⟨⟨0, [(x28, .inr (12, [.ref x29, .ref x30, .ref x31, .ref x32, .ref x33, .ref x34, .int 0])), (x20, .inr (14, [.ref x1, .ref x8, .ref x21, .ref x28, .ref x35, .int 0, .ref x36, .ref x37, .ref x38, .int 0, .int 0, .int 0, .int 0, .int 0, .int 0, .int 0, .int 1]))], rfl, ⟨rfl, rfl⟩, wq_B.of ht hP9 hD9⟩, hS.F ht⟩) hS.2.2 dX9_costOf_87
def vs_a_X9_costOf_2 : List Cond := .code yX9_costOf cX9_costOf 8 (some .long) :: ([.methodLink RX9 241 yX9_countsHeld, .instanceMethod yX9_countsHeld, .selects RX9 yX9_countsHeld yX9_countsHeld, .initialized RX9, .fieldLink RX9 18 "AnswerFold$Solver" "weaks" "LAnswerFold$Rows;"] ++ (vs_a_X9_countsHeld_0 ++ (u_ws RX9 TX9 17 ++ (u_ws RX7 TX7 7))))
theorem iv_a_X9_costOf_2_X7 : ∀ w ∈ u_ws RX7 TX7 7, w ∈ vs_a_X9_costOf_2 := (fun _ h => List.mem_cons_of_mem _ (List.mem_append_right _ (List.mem_append_right _ (List.mem_append_right _ (h)))))
theorem iv_a_X9_costOf_2_X9 : ∀ w ∈ u_ws RX9 TX9 17, w ∈ vs_a_X9_costOf_2 := (fun _ h => List.mem_cons_of_mem _ (List.mem_append_right _ (List.mem_append_right _ (List.mem_append_left _ h))))
set_option maxRecDepth 20000 in
theorem gv_a_X9_costOf_2_0 : GoodIn vs_a_X9_costOf_2 (wsV RX9 241 RX9 yX9_countsHeld vs_a_X9_countsHeld_0) := goodIn_app (goodIn_sub (by decide +kernel) (by decide +kernel)) (goodIn_sub (fun _ h => List.mem_cons_of_mem _ (List.mem_append_right _ (List.mem_append_left _ h))) (by decide +kernel))
set_option maxHeartbeats 4000000 in
set_option maxRecDepth 100000 in
theorem a_X9_costOf_2 (l : Launch) (D : va_G) (ty : Nat → ClassId) (td mi sz : Nat) (x28 : Nat) (x29 : Nat) (x30 : Nat) (x31 : Nat) (x32 : Nat) (x33 : Nat) (x34 : Nat) (x20 : Nat) (x1 : Nat) (x8 : Nat) (x21 : Nat) (x35 : Nat) (x36 : Nat) (x37 : Nat) (x38 : Nat) : Met l yX9_costOf vs_a_X9_costOf_2 { frames := 1, cells := 0, slots := 0, locals := 23 } (va_Pc [.ref x20, .int 0, .int 3] (wq_P D ty td mi [(x28, .inr (12, [.ref x29, .ref x30, .ref x31, .ref x32, .ref x33, .ref x34, .int 0])), (x20, .inr (14, [.ref x1, .ref x8, .ref x21, .ref x28, .ref x35, .int 0, .ref x36, .ref x37, .ref x38, .int 0, .int 0, .int 0, .int 0, .int 0, .int 0, .int 0, .int 1]))] sz)) (va_Ql (fun (r : Int64) (u : va_W) => (r = 0 ∧ (u = [(x28, .inr (12, [.ref x29, .ref x30, .ref x31, .ref x32, .ref x33, .ref x34, .int 0])), (x20, .inr (14, [.ref x1, .ref x8, .ref x21, .ref x28, .ref x35, .int 0, .ref x36, .ref x37, .ref x38, .int 0, .int 0, .int 0, .int 0, .int 0, .int 0, .int 0, .int 1]))]))) (wq_B D (va_A [(x28, .inr (12, [.ref x29, .ref x30, .ref x31, .ref x32, .ref x33, .ref x34, .int 0])), (x20, .inr (14, [.ref x1, .ref x8, .ref x21, .ref x28, .ref x35, .int 0, .ref x36, .ref x37, .ref x38, .int 0, .int 0, .int 0, .int 0, .int 0, .int 0, .int 0, .int 1]))] sz)) (va_A [(x28, .inr (12, [.ref x29, .ref x30, .ref x31, .ref x32, .ref x33, .ref x34, .int 0])), (x20, .inr (14, [.ref x1, .ref x8, .ref x21, .ref x28, .ref x35, .int 0, .ref x36, .ref x37, .ref x38, .int 0, .int 0, .int 0, .int 0, .int 0, .int 0, .int 0, .int 1]))] sz)) 0 0 (va_A [(x28, .inr (12, [.ref x29, .ref x30, .ref x31, .ref x32, .ref x33, .ref x34, .int 0])), (x20, .inr (14, [.ref x1, .ref x8, .ref x21, .ref x28, .ref x35, .int 0, .ref x36, .ref x37, .ref x38, .int 0, .int 0, .int 0, .int 0, .int 0, .int 0, .int 0, .int 1]))] sz) := by
  refine Met.ofW (cc := cX9_costOf) (maxL := 8) (ret := (some .long)) (by decide) rfl ?_
  intro p e s m args below meth c s₁ B hml hv
  obtain ⟨rfl, hsz, hP, hK, hD0, hE⟩ := hv
  have hx := B.exec
  have hb := B.bytes
  have hr := B.returns
  have hts := atoms_spec (ws := vs_a_X9_costOf_2) B.pre
  have hown : s.vm.findClass RX9 = some m.cls := findClass_of_methodNamed B.named
  have hlocks := B.notSynchronized
  subst hsz
  have hD := hD0.self (sz := s.heap.size)
  generalize hAe : va_A [(x28, .inr (12, [.ref x29, .ref x30, .ref x31, .ref x32, .ref x33, .ref x34, .int 0])), (x20, .inr (14, [.ref x1, .ref x8, .ref x21, .ref x28, .ref x35, .int 0, .ref x36, .ref x37, .ref x38, .int 0, .int 0, .int 0, .int 0, .int 0, .int 0, .int 0, .int 1]))] s.heap.size = A at hD hE ⊢
  have hA : ∀ q : Nat, s.heap.size ≤ q → A q := fun q h => by rw [← hAe]; exact Or.inr h
  have hS : va_S A s.heap s.heap [] := va_S.rf
  have hP : va_P D vwCl [(x28, .inr (12, [.ref x29, .ref x30, .ref x31, .ref x32, .ref x33, .ref x34, .int 0])), (x20, .inr (14, [.ref x1, .ref x8, .ref x21, .ref x28, .ref x35, .int 0, .ref x36, .ref x37, .ref x38, .int 0, .int 0, .int 0, .int 0, .int 0, .int 0, .int 0, .int 1]))] s.heap := hP
  have hl := lv_entry ([.ref x20, .int 0, .int 3]) (n := 8) (Nat.le_of_ble_eq_true rfl)
  rw [lg_entry_eq]
  generalize (lg_sl ([.ref x20, .int 0, .int 3]) ++ List.replicate (8 - (lg_sl ([.ref x20, .int 0, .int 3])).length) Slot.unset).toArray = ls at hl ⊢
  have hl : lv_has ls 8 [(0, .ref x20), (1, .int 0), (2, .int 3)] := hl
  refine lv_lconst (v := 0) hx hb dX9_costOf_0 (by decide) ?_
  refine lv_lstore_n (lv' := [(3, .long 0), (0, .ref x20), (1, .int 0), (2, .int 3)]) hx hb dX9_costOf_1 rfl hl (by decide) rfl (fun ls hl => ?_)
  refine lv_aload_n hx hb dX9_costOf_2 rfl (lv_at hl 1 rfl) ?_
  refine lv_iload_n hx hb dX9_costOf_3 rfl (lv_at hl 2 rfl) ?_
  refine wq_i (wc := [(x20, .inr (14, [.ref x1, .ref x8, .ref x21, .ref x28, .ref x35, .int 0, .ref x36, .ref x37, .ref x38, .int 0, .int 0, .int 0, .int 0, .int 0, .int 0, .int 0, .int 1]))]) (wr := [(x28, .inr (12, [.ref x29, .ref x30, .ref x31, .ref x32, .ref x33, .ref x34, .int 0]))]) (va_runV (As := [.int 0]) (rest := []) ⟨hx, hb, hml, hown, hts⟩ (a_X9_countsHeld_0 l D ty td mi s.heap.size x20 x1 x8 x21 x28 x35 x36 x37 x38) (cwV 1 hts gv_a_X9_costOf_2_0 rfl rfl rfl (by decide +kernel) ⟨(Nat.le_of_ble_eq_true rfl), (Nat.le_of_ble_eq_true rfl)⟩) (wq_preV hP hD hK hE hS hA [1] rfl (by decide) 1 14 rfl rfl) rfl rfl hl.1 rfl (lv_room (Nat.le_of_ble_eq_true rfl)) dX9_costOf_4 ⟨(Nat.le_of_ble_eq_true rfl), (Nat.le_of_ble_eq_true rfl)⟩) hS hA hP hD [1] [0] rfl rfl (by decide) (by decide) (fun r u H locs hw hP hD hS => ?_)
  obtain ⟨rfl, rfl⟩ := hw
  have hP : va_P D vwCl [(x28, .inr (12, [.ref x29, .ref x30, .ref x31, .ref x32, .ref x33, .ref x34, .int 0])), (x20, .inr (14, [.ref x1, .ref x8, .ref x21, .ref x28, .ref x35, .int 0, .ref x36, .ref x37, .ref x38, .int 0, .int 0, .int 0, .int 0, .int 0, .int 0, .int 0, .int 1]))] H := hP
  have hD : va_D A [(x28, .inr (12, [.ref x29, .ref x30, .ref x31, .ref x32, .ref x33, .ref x34, .int 0])), (x20, .inr (14, [.ref x1, .ref x8, .ref x21, .ref x28, .ref x35, .int 0, .ref x36, .ref x37, .ref x38, .int 0, .int 0, .int 0, .int 0, .int 0, .int 0, .int 0, .int 1]))] := hD
  refine W.widen (k := 0) (n := 0) (Nat.le_of_ble_eq_true rfl) (Nat.le_of_ble_eq_true rfl) ?_
  refine lv_istore (lv' := [(5, .int 1048575), (3, .long 0), (0, .ref x20), (1, .int 0), (2, .int 3)]) hx hb dX9_costOf_7 hl (by decide) rfl (fun ls hl => ?_)
  refine lv_iconst (v := 0) hx hb dX9_costOf_9 (by decide) ?_
  refine lv_istore (lv' := [(6, .int 0), (5, .int 1048575), (3, .long 0), (0, .ref x20), (1, .int 0), (2, .int 3)]) hx hb dX9_costOf_10 hl (by decide) rfl (fun ls hl => ?_)
  refine lv_iload hx hb dX9_costOf_12 (lv_at hl 0 rfl) ?_
  refine lv_aload_n hx hb dX9_costOf_14 rfl (lv_at hl 3 rfl) ?_
  refine va_get (D := D) (ci := 14) (v := .ref x28) (C := RX9) (T := TX9) (N := 17) hx hb hts iv_a_X9_costOf_2_X9 hown hK hP 1 rfl rfl 3 (by decide) (hts (.fieldLink RX9 18 "AnswerFold$Solver" "weaks" "LAnswerFold$Rows;") (by decide +kernel)) (fun _ h9 => h9) rfl dX9_costOf_15 ?_
  refine va_getN (D := D) (ci := 12) (v := .int 0) (C := RX7) (T := TX7) (N := 7) hx hb hts iv_a_X9_costOf_2_X7 hown hK hP 0 rfl rfl 6 (by decide) (hE.at (.fieldLinkNest "AnswerFold$Solver" 93 "AnswerFold$Rows" "count" "I" "AnswerFold") (by decide +kernel)) (fun _ h9 => h9) rfl dX9_costOf_18 ?_
  refine lv_icmp_ge (tgt := 86) hx hb dX9_costOf_21 (by decide) (fun _ => ?_) (fun c0 => absurd (by decide) c0)
  refine lv_lload_n hx hb dX9_costOf_86 rfl (lv_at hl 2 rfl) ?_
  have hP9 := hP.sub (ws' := [(x28, .inr (12, [.ref x29, .ref x30, .ref x31, .ref x32, .ref x33, .ref x34, .int 0])), (x20, .inr (14, [.ref x1, .ref x8, .ref x21, .ref x28, .ref x35, .int 0, .ref x36, .ref x37, .ref x38, .int 0, .int 0, .int 0, .int 0, .int 0, .int 0, .int 0, .int 1]))]) [0, 1] rfl
  have hD9 := hD.sub (ws' := [(x28, .inr (12, [.ref x29, .ref x30, .ref x31, .ref x32, .ref x33, .ref x34, .int 0])), (x20, .inr (14, [.ref x1, .ref x8, .ref x21, .ref x28, .ref x35, .int 0, .ref x36, .ref x37, .ref x38, .int 0, .int 0, .int 0, .int 0, .int 0, .int 0, .int 0, .int 1]))]) [0, 1] (by decide) rfl
  refine W.widen (k := 0) (n := 0) (Nat.le_of_ble_eq_true rfl) (Nat.le_of_ble_eq_true rfl) ?_
  exact W.lret (v := 0) hx hb hr (fun t ht hW => ⟨⟨0, [(x28, .inr (12, [.ref x29, .ref x30, .ref x31, .ref x32, .ref x33, .ref x34, .int 0])), (x20, .inr (14, [.ref x1, .ref x8, .ref x21, .ref x28, .ref x35, .int 0, .ref x36, .ref x37, .ref x38, .int 0, .int 0, .int 0, .int 0, .int 0, .int 0, .int 0, .int 1]))], rfl, ⟨rfl, rfl⟩, wq_B.of ht hP9 hD9⟩, hS.F ht⟩) hS.2.2 dX9_costOf_87
def vs_a_X0_insert_0 : List Cond := .code yX0_insert cX0_insert 10 (some .boolean) :: ([.fieldLink RX0 19 "AnswerFold$Answers" "count" "I", .fieldLink RX0 9 "AnswerFold$Answers" "sets" "[I", .fieldLink RX0 15 "AnswerFold$Answers" "costs" "[J"] ++ (u_ws RX0 TX0 4))
theorem iv_a_X0_insert_0_X0 : ∀ w ∈ u_ws RX0 TX0 4, w ∈ vs_a_X0_insert_0 := (fun _ h => List.mem_cons_of_mem _ (List.mem_append_right _ (h)))
set_option maxHeartbeats 4000000 in
set_option maxRecDepth 100000 in
theorem a_X0_insert_0 (l : Launch) (D : va_G) (ty : Nat → ClassId) (td mi sz : Nat) (x45 : Nat) (x46 : Nat) (x47 : Nat) : Met l yX0_insert vs_a_X0_insert_0 { frames := 0, cells := 0, slots := 0, locals := 0 } (va_Pc [.ref x45, .int 0, .long 0, .long 0, .long 0] (wq_P D ty td mi [(x45, .inr (5, [.ref x46, .ref x47, .int 0, .int 0])), (x46, .inl (ty 0, 64, .inl (fun _ => 0))), (x47, .inl (ty 1, 192, .inr (.inl (fun _ => 0))))] sz)) (va_Qi (fun (r : Int32) (u : va_W) => (r = 1 ∧ (u = [(x45, .inr (5, [.ref x46, .ref x47, .int 1, .int 0])), (x46, .inl (ty 0, 64, .inl (fun _ => 0))), (x47, .inl (ty 1, 192, .inr (.inl (fun _ => 0))))]))) (wq_B D (va_A [(x45, .inr (5, [.ref x46, .ref x47, .int 0, .int 0])), (x46, .inl (ty 0, 64, .inl (fun _ => 0))), (x47, .inl (ty 1, 192, .inr (.inl (fun _ => 0))))] sz)) (va_A [(x45, .inr (5, [.ref x46, .ref x47, .int 0, .int 0])), (x46, .inl (ty 0, 64, .inl (fun _ => 0))), (x47, .inl (ty 1, 192, .inr (.inl (fun _ => 0))))] sz)) 0 0 (va_A [(x45, .inr (5, [.ref x46, .ref x47, .int 0, .int 0])), (x46, .inl (ty 0, 64, .inl (fun _ => 0))), (x47, .inl (ty 1, 192, .inr (.inl (fun _ => 0))))] sz) := by
  refine Met.ofW (cc := cX0_insert) (maxL := 10) (ret := (some .boolean)) (by decide) rfl ?_
  intro p e s m args below meth c s₁ B hml hv
  obtain ⟨rfl, hsz, hP, hK, hD0, hE⟩ := hv
  have hx := B.exec
  have hb := B.bytes
  have hr := B.returns
  have hts := atoms_spec (ws := vs_a_X0_insert_0) B.pre
  have hown : s.vm.findClass RX0 = some m.cls := findClass_of_methodNamed B.named
  have hlocks := B.notSynchronized
  subst hsz
  have hD := hD0.self (sz := s.heap.size)
  generalize hAe : va_A [(x45, .inr (5, [.ref x46, .ref x47, .int 0, .int 0])), (x46, .inl (ty 0, 64, .inl (fun _ => 0))), (x47, .inl (ty 1, 192, .inr (.inl (fun _ => 0))))] s.heap.size = A at hD hE ⊢
  have hA : ∀ q : Nat, s.heap.size ≤ q → A q := fun q h => by rw [← hAe]; exact Or.inr h
  have hS : va_S A s.heap s.heap [] := va_S.rf
  have hP : va_P D vwCl [(x45, .inr (5, [.ref x46, .ref x47, .int 0, .int 0])), (x46, .inl (ty 0, 64, .inl (fun _ => 0))), (x47, .inl (ty 1, 192, .inr (.inl (fun _ => 0))))] s.heap := hP
  have hl := lv_entry ([.ref x45, .int 0, .long 0, .long 0, .long 0]) (n := 10) (Nat.le_of_ble_eq_true rfl)
  rw [lg_entry_eq]
  generalize (lg_sl ([.ref x45, .int 0, .long 0, .long 0, .long 0]) ++ List.replicate (10 - (lg_sl ([.ref x45, .int 0, .long 0, .long 0, .long 0])).length) Slot.unset).toArray = ls at hl ⊢
  have hl : lv_has ls 10 [(0, .ref x45), (1, .int 0), (2, .long 0), (4, .long 0), (6, .long 0)] := hl
  refine lv_aload_n hx hb dX0_insert_0 rfl (lv_at hl 0 rfl) ?_
  refine va_get (D := D) (ci := 5) (v := .int 0) (C := RX0) (T := TX0) (N := 4) hx hb hts iv_a_X0_insert_0_X0 hown hK hP 0 rfl rfl 2 (by decide) (hts (.fieldLink RX0 19 "AnswerFold$Answers" "count" "I") (by decide +kernel)) (fun _ h9 => h9) rfl dX0_insert_1 ?_
  refine lv_if_lt (tgt := 16) hx hb dX0_insert_4 (by decide) (fun c0 => absurd c0 (by decide)) (fun _ => ?_)
  refine lv_aload_n hx hb dX0_insert_7 rfl (lv_at hl 0 rfl) ?_
  refine va_get (D := D) (ci := 5) (v := .int 0) (C := RX0) (T := TX0) (N := 4) hx hb hts iv_a_X0_insert_0_X0 hown hK hP 0 rfl rfl 2 (by decide) (hts (.fieldLink RX0 19 "AnswerFold$Answers" "count" "I") (by decide +kernel)) (fun _ h9 => h9) rfl dX0_insert_8 ?_
  refine lv_bipush (v := 64) hx hb dX0_insert_11 (by decide) ?_
  refine lv_icmp_lt (tgt := 18) hx hb dX0_insert_13 (by decide) (fun _ => ?_) (fun c0 => absurd (by decide) c0)
  refine lv_aload_n hx hb dX0_insert_18 rfl (lv_at hl 0 rfl) ?_
  refine va_get (D := D) (ci := 5) (v := .int 0) (C := RX0) (T := TX0) (N := 4) hx hb hts iv_a_X0_insert_0_X0 hown hK hP 0 rfl rfl 2 (by decide) (hts (.fieldLink RX0 19 "AnswerFold$Answers" "count" "I") (by decide +kernel)) (fun _ h9 => h9) rfl dX0_insert_19 ?_
  refine lv_istore (lv' := [(8, .int 0), (0, .ref x45), (1, .int 0), (2, .long 0), (4, .long 0), (6, .long 0)]) hx hb dX0_insert_22 hl (by decide) rfl (fun ls hl => ?_)
  refine lv_aload_n hx hb dX0_insert_24 rfl (lv_at hl 1 rfl) ?_
  refine va_get (D := D) (ci := 5) (v := .int 0) (C := RX0) (T := TX0) (N := 4) hx hb hts iv_a_X0_insert_0_X0 hown hK hP 0 rfl rfl 2 (by decide) (hts (.fieldLink RX0 19 "AnswerFold$Answers" "count" "I") (by decide +kernel)) (fun _ h9 => h9) rfl dX0_insert_25 ?_
  refine lv_istore (lv' := [(9, .int 0), (8, .int 0), (0, .ref x45), (1, .int 0), (2, .long 0), (4, .long 0), (6, .long 0)]) hx hb dX0_insert_28 hl (by decide) rfl (fun ls hl => ?_)
  refine lv_iload hx hb dX0_insert_30 (lv_at hl 0 rfl) ?_
  refine lv_if_le (tgt := 73) hx hb dX0_insert_32 (by decide) (fun _ => ?_) (fun c0 => absurd (by decide) c0)
  refine lv_aload_n hx hb dX0_insert_73 rfl (lv_at hl 2 rfl) ?_
  refine va_get (D := D) (ci := 5) (v := .ref x46) (C := RX0) (T := TX0) (N := 4) hx hb hts iv_a_X0_insert_0_X0 hown hK hP 0 rfl rfl 0 (by decide) (hts (.fieldLink RX0 9 "AnswerFold$Answers" "sets" "[I") (by decide +kernel)) (fun _ h9 => h9) rfl dX0_insert_74 ?_
  refine lv_iload hx hb dX0_insert_77 (lv_at hl 1 rfl) ?_
  refine lv_iload_n hx hb dX0_insert_79 rfl (lv_at hl 3 rfl) ?_
  refine va_iast (D := D) hx hb hK hP hD hS 1 0 rfl rfl (vp_in_iff.mpr (by decide)) dX0_insert_80 (fun H locs hP hD hS => ?_)
  rw [wq_upd0] at hP hD
  have hP : va_P D vwCl [(x45, .inr (5, [.ref x46, .ref x47, .int 0, .int 0])), (x46, .inl (ty 0, 64, .inl (fun _ => 0))), (x47, .inl (ty 1, 192, .inr (.inl (fun _ => 0))))] H := hP
  have hD : va_D A [(x45, .inr (5, [.ref x46, .ref x47, .int 0, .int 0])), (x46, .inl (ty 0, 64, .inl (fun _ => 0))), (x47, .inl (ty 1, 192, .inr (.inl (fun _ => 0))))] := hD
  refine lv_aload_n hx hb dX0_insert_81 rfl (lv_at hl 2 rfl) ?_
  refine va_get (D := D) (ci := 5) (v := .ref x47) (C := RX0) (T := TX0) (N := 4) hx hb hts iv_a_X0_insert_0_X0 hown hK hP 0 rfl rfl 1 (by decide) (hts (.fieldLink RX0 15 "AnswerFold$Answers" "costs" "[J") (by decide +kernel)) (fun _ h9 => h9) rfl dX0_insert_82 ?_
  refine lv_iload hx hb dX0_insert_85 (lv_at hl 1 rfl) ?_
  refine lv_iconst (v := 3) hx hb dX0_insert_87 (by decide) ?_
  refine lv_imul hx hb dX0_insert_88 ?_
  refine lv_topi (nm_r (e' := 0) (by decide) ?_)
  refine lv_lload_n hx hb dX0_insert_89 rfl (lv_at hl 4 rfl) ?_
  refine va_last (D := D) hx hb hK hP hD hS 2 1 rfl rfl (vp_in_iff.mpr (by decide)) dX0_insert_90 (fun H locs hP hD hS => ?_)
  rw [wq_updL0] at hP hD
  have hP : va_P D vwCl [(x45, .inr (5, [.ref x46, .ref x47, .int 0, .int 0])), (x46, .inl (ty 0, 64, .inl (fun _ => 0))), (x47, .inl (ty 1, 192, .inr (.inl (fun _ => 0))))] H := hP
  have hD : va_D A [(x45, .inr (5, [.ref x46, .ref x47, .int 0, .int 0])), (x46, .inl (ty 0, 64, .inl (fun _ => 0))), (x47, .inl (ty 1, 192, .inr (.inl (fun _ => 0))))] := hD
  refine lv_aload_n hx hb dX0_insert_91 rfl (lv_at hl 2 rfl) ?_
  refine va_get (D := D) (ci := 5) (v := .ref x47) (C := RX0) (T := TX0) (N := 4) hx hb hts iv_a_X0_insert_0_X0 hown hK hP 0 rfl rfl 1 (by decide) (hts (.fieldLink RX0 15 "AnswerFold$Answers" "costs" "[J") (by decide +kernel)) (fun _ h9 => h9) rfl dX0_insert_92 ?_
  refine lv_iload hx hb dX0_insert_95 (lv_at hl 1 rfl) ?_
  refine lv_iconst (v := 3) hx hb dX0_insert_97 (by decide) ?_
  refine lv_imul hx hb dX0_insert_98 ?_
  refine lv_topi (nm_r (e' := 0) (by decide) ?_)
  refine lv_iconst (v := 1) hx hb dX0_insert_99 (by decide) ?_
  refine lv_iadd hx hb dX0_insert_100 ?_
  refine lv_topi (nm_r (e' := 1) (by decide) ?_)
  refine lv_lload hx hb dX0_insert_101 (lv_at hl 5 rfl) ?_
  refine va_last (D := D) hx hb hK hP hD hS 2 1 rfl rfl (vp_in_iff.mpr (by decide)) dX0_insert_103 (fun H locs hP hD hS => ?_)
  rw [wq_updL0] at hP hD
  have hP : va_P D vwCl [(x45, .inr (5, [.ref x46, .ref x47, .int 0, .int 0])), (x46, .inl (ty 0, 64, .inl (fun _ => 0))), (x47, .inl (ty 1, 192, .inr (.inl (fun _ => 0))))] H := hP
  have hD : va_D A [(x45, .inr (5, [.ref x46, .ref x47, .int 0, .int 0])), (x46, .inl (ty 0, 64, .inl (fun _ => 0))), (x47, .inl (ty 1, 192, .inr (.inl (fun _ => 0))))] := hD
  refine lv_aload_n hx hb dX0_insert_104 rfl (lv_at hl 2 rfl) ?_
  refine va_get (D := D) (ci := 5) (v := .ref x47) (C := RX0) (T := TX0) (N := 4) hx hb hts iv_a_X0_insert_0_X0 hown hK hP 0 rfl rfl 1 (by decide) (hts (.fieldLink RX0 15 "AnswerFold$Answers" "costs" "[J") (by decide +kernel)) (fun _ h9 => h9) rfl dX0_insert_105 ?_
  refine lv_iload hx hb dX0_insert_108 (lv_at hl 1 rfl) ?_
  refine lv_iconst (v := 3) hx hb dX0_insert_110 (by decide) ?_
  refine lv_imul hx hb dX0_insert_111 ?_
  refine lv_topi (nm_r (e' := 0) (by decide) ?_)
  refine lv_iconst (v := 2) hx hb dX0_insert_112 (by decide) ?_
  refine lv_iadd hx hb dX0_insert_113 ?_
  refine lv_topi (nm_r (e' := 2) (by decide) ?_)
  refine lv_lload hx hb dX0_insert_114 (lv_at hl 6 rfl) ?_
  refine va_last (D := D) hx hb hK hP hD hS 2 1 rfl rfl (vp_in_iff.mpr (by decide)) dX0_insert_116 (fun H locs hP hD hS => ?_)
  rw [wq_updL0] at hP hD
  have hP : va_P D vwCl [(x45, .inr (5, [.ref x46, .ref x47, .int 0, .int 0])), (x46, .inl (ty 0, 64, .inl (fun _ => 0))), (x47, .inl (ty 1, 192, .inr (.inl (fun _ => 0))))] H := hP
  have hD : va_D A [(x45, .inr (5, [.ref x46, .ref x47, .int 0, .int 0])), (x46, .inl (ty 0, 64, .inl (fun _ => 0))), (x47, .inl (ty 1, 192, .inr (.inl (fun _ => 0))))] := hD
  refine lv_aload_n hx hb dX0_insert_117 rfl (lv_at hl 2 rfl) ?_
  refine lv_dup hx hb dX0_insert_118 rfl ?_
  refine va_get (D := D) (ci := 5) (v := .int 0) (C := RX0) (T := TX0) (N := 4) hx hb hts iv_a_X0_insert_0_X0 hown hK hP 0 rfl rfl 2 (by decide) (hts (.fieldLink RX0 19 "AnswerFold$Answers" "count" "I") (by decide +kernel)) (fun _ h9 => h9) rfl dX0_insert_119 ?_
  refine lv_iconst (v := 1) hx hb dX0_insert_122 (by decide) ?_
  refine lv_iadd hx hb dX0_insert_123 ?_
  refine lv_topi (nm_r (e' := 1) (by decide) ?_)
  refine va_put (D := D) (ci := 5) (v := .int 1) (ty := tyX0 2) (C := RX0) (T := TX0) (N := 4) hx hb hts iv_a_X0_insert_0_X0 tyX0 tyX0_ok nmX0 hown hK hP hD hS 0 rfl rfl 2 (by decide) (hts (.fieldLink RX0 19 "AnswerFold$Answers" "count" "I") (by decide +kernel)) (fun _ h9 => h9) rfl (by decide +kernel) rfl rfl (Nat.le_of_ble_eq_true rfl) dX0_insert_124 (fun H locs hP hD hS => ?_)
  have hP : va_P D vwCl [(x45, .inr (5, [.ref x46, .ref x47, .int 1, .int 0])), (x46, .inl (ty 0, 64, .inl (fun _ => 0))), (x47, .inl (ty 1, 192, .inr (.inl (fun _ => 0))))] H := hP
  have hD : va_D A [(x45, .inr (5, [.ref x46, .ref x47, .int 1, .int 0])), (x46, .inl (ty 0, 64, .inl (fun _ => 0))), (x47, .inl (ty 1, 192, .inr (.inl (fun _ => 0))))] := hD
  refine lv_iconst (v := 1) hx hb dX0_insert_127 (by decide) ?_
  have hP9 := hP.sub (ws' := [(x45, .inr (5, [.ref x46, .ref x47, .int 1, .int 0])), (x46, .inl (ty 0, 64, .inl (fun _ => 0))), (x47, .inl (ty 1, 192, .inr (.inl (fun _ => 0))))]) [0, 1, 2] rfl
  have hD9 := hD.sub (ws' := [(x45, .inr (5, [.ref x46, .ref x47, .int 1, .int 0])), (x46, .inl (ty 0, 64, .inl (fun _ => 0))), (x47, .inl (ty 1, 192, .inr (.inl (fun _ => 0))))]) [0, 1, 2] (by decide) rfl
  refine W.widen (k := 0) (n := 0) (Nat.le_of_ble_eq_true rfl) (Nat.le_of_ble_eq_true rfl) ?_
  exact W.zret (v := 1) hx hb hr rfl (fun t ht hW => ⟨⟨1, [(x45, .inr (5, [.ref x46, .ref x47, .int 1, .int 0])), (x46, .inl (ty 0, 64, .inl (fun _ => 0))), (x47, .inl (ty 1, 192, .inr (.inl (fun _ => 0))))], rfl, ⟨rfl, rfl⟩, wq_B.of ht hP9 hD9⟩, hS.F ht⟩) hS.2.2 dX0_insert_128
def vs_a_X9_findAnswers_0 : List Cond := .code yX9_findAnswers cX9_findAnswers 3 (some .boolean) :: ([.methodLink RX9 218 yX9_fullSet, .instanceMethod yX9_fullSet, .selects RX9 yX9_fullSet yX9_fullSet, .initialized RX9, .methodLink RX9 221 yX9_fits, .instanceMethod yX9_fits, .selects RX9 yX9_fits yX9_fits, .methodLink RX9 224 yX9_isModel, .instanceMethod yX9_isModel, .selects RX9 yX9_isModel yX9_isModel, .methodLink RX9 227 yX9_hasSmaller, .instanceMethod yX9_hasSmaller, .selects RX9 yX9_hasSmaller yX9_hasSmaller, .methodLink RX9 230 yX9_costOf, .instanceMethod yX9_costOf, .selects RX9 yX9_costOf yX9_costOf, .methodLink RX9 234 yX0_insert, .instanceMethod yX0_insert, .selects RX0 yX0_insert yX0_insert, .initialized RX0] ++ (u_ws RX0 TX0 4 ++ (vs_a_X9_fullSet_0 ++ (vs_a_X9_fits_0 ++ (vs_a_X9_isModel_0 ++ (vs_a_X9_hasSmaller_0 ++ (vs_a_X9_costOf_0 ++ (vs_a_X9_costOf_1 ++ (vs_a_X9_costOf_2 ++ (vs_a_X0_insert_0))))))))))
theorem iv_a_X9_findAnswers_0_X0 : ∀ w ∈ u_ws RX0 TX0 4, w ∈ vs_a_X9_findAnswers_0 := (fun _ h => List.mem_cons_of_mem _ (List.mem_append_right _ (List.mem_append_left _ h)))
set_option maxRecDepth 20000 in
theorem gv_a_X9_findAnswers_0_0 : GoodIn vs_a_X9_findAnswers_0 (wsV RX9 218 RX9 yX9_fullSet vs_a_X9_fullSet_0) := goodIn_app (goodIn_sub (by decide +kernel) (by decide +kernel)) (goodIn_sub (fun _ h => List.mem_cons_of_mem _ (List.mem_append_right _ (List.mem_append_right _ (List.mem_append_left _ h)))) (by decide +kernel))
set_option maxRecDepth 20000 in
theorem gv_a_X9_findAnswers_0_1 : GoodIn vs_a_X9_findAnswers_0 (wsV RX9 221 RX9 yX9_fits vs_a_X9_fits_0) := goodIn_app (goodIn_sub (by decide +kernel) (by decide +kernel)) (goodIn_sub (fun _ h => List.mem_cons_of_mem _ (List.mem_append_right _ (List.mem_append_right _ (List.mem_append_right _ (List.mem_append_left _ h))))) (by decide +kernel))
set_option maxRecDepth 20000 in
theorem gv_a_X9_findAnswers_0_2 : GoodIn vs_a_X9_findAnswers_0 (wsV RX9 224 RX9 yX9_isModel vs_a_X9_isModel_0) := goodIn_app (goodIn_sub (by decide +kernel) (by decide +kernel)) (goodIn_sub (fun _ h => List.mem_cons_of_mem _ (List.mem_append_right _ (List.mem_append_right _ (List.mem_append_right _ (List.mem_append_right _ (List.mem_append_left _ h)))))) (by decide +kernel))
set_option maxRecDepth 20000 in
theorem gv_a_X9_findAnswers_0_3 : GoodIn vs_a_X9_findAnswers_0 (wsV RX9 227 RX9 yX9_hasSmaller vs_a_X9_hasSmaller_0) := goodIn_app (goodIn_sub (by decide +kernel) (by decide +kernel)) (goodIn_sub (fun _ h => List.mem_cons_of_mem _ (List.mem_append_right _ (List.mem_append_right _ (List.mem_append_right _ (List.mem_append_right _ (List.mem_append_right _ (List.mem_append_left _ h))))))) (by decide +kernel))
set_option maxRecDepth 20000 in
theorem gv_a_X9_findAnswers_0_4 : GoodIn vs_a_X9_findAnswers_0 (wsV RX9 230 RX9 yX9_costOf vs_a_X9_costOf_0) := goodIn_app (goodIn_sub (by decide +kernel) (by decide +kernel)) (goodIn_sub (fun _ h => List.mem_cons_of_mem _ (List.mem_append_right _ (List.mem_append_right _ (List.mem_append_right _ (List.mem_append_right _ (List.mem_append_right _ (List.mem_append_right _ (List.mem_append_left _ h)))))))) (by decide +kernel))
set_option maxRecDepth 20000 in
theorem gv_a_X9_findAnswers_0_5 : GoodIn vs_a_X9_findAnswers_0 (wsV RX9 230 RX9 yX9_costOf vs_a_X9_costOf_1) := goodIn_app (goodIn_sub (by decide +kernel) (by decide +kernel)) (goodIn_sub (fun _ h => List.mem_cons_of_mem _ (List.mem_append_right _ (List.mem_append_right _ (List.mem_append_right _ (List.mem_append_right _ (List.mem_append_right _ (List.mem_append_right _ (List.mem_append_right _ (List.mem_append_left _ h))))))))) (by decide +kernel))
set_option maxRecDepth 20000 in
theorem gv_a_X9_findAnswers_0_6 : GoodIn vs_a_X9_findAnswers_0 (wsV RX9 230 RX9 yX9_costOf vs_a_X9_costOf_2) := goodIn_app (goodIn_sub (by decide +kernel) (by decide +kernel)) (goodIn_sub (fun _ h => List.mem_cons_of_mem _ (List.mem_append_right _ (List.mem_append_right _ (List.mem_append_right _ (List.mem_append_right _ (List.mem_append_right _ (List.mem_append_right _ (List.mem_append_right _ (List.mem_append_right _ (List.mem_append_left _ h)))))))))) (by decide +kernel))
set_option maxRecDepth 20000 in
theorem gv_a_X9_findAnswers_0_7 : GoodIn vs_a_X9_findAnswers_0 (wsV RX9 234 RX0 yX0_insert vs_a_X0_insert_0) := goodIn_app (goodIn_sub (by decide +kernel) (by decide +kernel)) (goodIn_sub (fun _ h => List.mem_cons_of_mem _ (List.mem_append_right _ (List.mem_append_right _ (List.mem_append_right _ (List.mem_append_right _ (List.mem_append_right _ (List.mem_append_right _ (List.mem_append_right _ (List.mem_append_right _ (List.mem_append_right _ (h))))))))))) (by decide +kernel))
set_option maxHeartbeats 4000000 in
set_option maxRecDepth 100000 in
theorem a_X9_findAnswers_0 (l : Launch) (D : va_G) (ty : Nat → ClassId) (td mi sz : Nat) (x38 : Nat) (x45 : Nat) (x46 : Nat) (x47 : Nat) (x21 : Nat) (x22 : Nat) (x23 : Nat) (x24 : Nat) (x25 : Nat) (x26 : Nat) (x27 : Nat) (x28 : Nat) (x29 : Nat) (x30 : Nat) (x31 : Nat) (x32 : Nat) (x33 : Nat) (x34 : Nat) (x8 : Nat) (x1 : Nat) (x9 : Nat) (x10 : Nat) (x12 : Nat) (x14 : Nat) (x15 : Nat) (x16 : Nat) (x17 : Nat) (x18 : Nat) (x19 : Nat) (x20 : Nat) (x35 : Nat) (x36 : Nat) (x37 : Nat) : Met l yX9_findAnswers vs_a_X9_findAnswers_0 { frames := 3, cells := 0, slots := 0, locals := 80 } (va_Pc [.ref x20, .ref x45] (wq_P D ty td mi [(x38, .inl (ty 0, 26, .inl (fun _ => 0))), (x45, .inr (5, [.ref x46, .ref x47, .int 0, .int 0])), (x46, .inl (ty 0, 64, .inl (fun _ => 0))), (x47, .inl (ty 1, 192, .inr (.inl (fun _ => 0)))), (x21, .inr (12, [.ref x22, .ref x23, .ref x24, .ref x25, .ref x26, .ref x27, .int 0])), (x28, .inr (12, [.ref x29, .ref x30, .ref x31, .ref x32, .ref x33, .ref x34, .int 0])), (x8, .inr (8, [.ref x1, .ref x9, .ref x10, .ref x12, .ref x14, .int 0, .ref x15, .ref x16, .ref x17, .int 0, .ref x18, .ref x19, .int 0, .int 1, .int 2, .int 0])), (x20, .inr (14, [.ref x1, .ref x8, .ref x21, .ref x28, .ref x35, .int 0, .ref x36, .ref x37, .ref x38, .int 0, .int 0, .int 0, .int 0, .int 0, .int 0, .int 0, .int 1]))] sz)) (va_Qi (fun (r : Int32) (u : va_W) => (r = 1 ∧ (u = [(x8, .inr (8, [.ref x1, .ref x9, .ref x10, .ref x12, .ref x14, .int 0, .ref x15, .ref x16, .ref x17, .int 0, .ref x18, .ref x19, .int 0, .int 1, .int 2, .int 0])), (x38, .inl (ty 0, 26, .inl (fun _ => 0))), (x21, .inr (12, [.ref x22, .ref x23, .ref x24, .ref x25, .ref x26, .ref x27, .int 0])), (x28, .inr (12, [.ref x29, .ref x30, .ref x31, .ref x32, .ref x33, .ref x34, .int 0])), (x20, .inr (14, [.ref x1, .ref x8, .ref x21, .ref x28, .ref x35, .int 0, .ref x36, .ref x37, .ref x38, .int 0, .int 0, .int 0, .int 0, .int 0, .int 0, .int 0, .int 1])), (x45, .inr (5, [.ref x46, .ref x47, .int 1, .int 0])), (x46, .inl (ty 0, 64, .inl (fun _ => 0))), (x47, .inl (ty 1, 192, .inr (.inl (fun _ => 0))))]))) (wq_B D (va_A [(x38, .inl (ty 0, 26, .inl (fun _ => 0))), (x45, .inr (5, [.ref x46, .ref x47, .int 0, .int 0])), (x46, .inl (ty 0, 64, .inl (fun _ => 0))), (x47, .inl (ty 1, 192, .inr (.inl (fun _ => 0)))), (x21, .inr (12, [.ref x22, .ref x23, .ref x24, .ref x25, .ref x26, .ref x27, .int 0])), (x28, .inr (12, [.ref x29, .ref x30, .ref x31, .ref x32, .ref x33, .ref x34, .int 0])), (x8, .inr (8, [.ref x1, .ref x9, .ref x10, .ref x12, .ref x14, .int 0, .ref x15, .ref x16, .ref x17, .int 0, .ref x18, .ref x19, .int 0, .int 1, .int 2, .int 0])), (x20, .inr (14, [.ref x1, .ref x8, .ref x21, .ref x28, .ref x35, .int 0, .ref x36, .ref x37, .ref x38, .int 0, .int 0, .int 0, .int 0, .int 0, .int 0, .int 0, .int 1]))] sz)) (va_A [(x38, .inl (ty 0, 26, .inl (fun _ => 0))), (x45, .inr (5, [.ref x46, .ref x47, .int 0, .int 0])), (x46, .inl (ty 0, 64, .inl (fun _ => 0))), (x47, .inl (ty 1, 192, .inr (.inl (fun _ => 0)))), (x21, .inr (12, [.ref x22, .ref x23, .ref x24, .ref x25, .ref x26, .ref x27, .int 0])), (x28, .inr (12, [.ref x29, .ref x30, .ref x31, .ref x32, .ref x33, .ref x34, .int 0])), (x8, .inr (8, [.ref x1, .ref x9, .ref x10, .ref x12, .ref x14, .int 0, .ref x15, .ref x16, .ref x17, .int 0, .ref x18, .ref x19, .int 0, .int 1, .int 2, .int 0])), (x20, .inr (14, [.ref x1, .ref x8, .ref x21, .ref x28, .ref x35, .int 0, .ref x36, .ref x37, .ref x38, .int 0, .int 0, .int 0, .int 0, .int 0, .int 0, .int 0, .int 1]))] sz)) 0 0 (va_A [(x38, .inl (ty 0, 26, .inl (fun _ => 0))), (x45, .inr (5, [.ref x46, .ref x47, .int 0, .int 0])), (x46, .inl (ty 0, 64, .inl (fun _ => 0))), (x47, .inl (ty 1, 192, .inr (.inl (fun _ => 0)))), (x21, .inr (12, [.ref x22, .ref x23, .ref x24, .ref x25, .ref x26, .ref x27, .int 0])), (x28, .inr (12, [.ref x29, .ref x30, .ref x31, .ref x32, .ref x33, .ref x34, .int 0])), (x8, .inr (8, [.ref x1, .ref x9, .ref x10, .ref x12, .ref x14, .int 0, .ref x15, .ref x16, .ref x17, .int 0, .ref x18, .ref x19, .int 0, .int 1, .int 2, .int 0])), (x20, .inr (14, [.ref x1, .ref x8, .ref x21, .ref x28, .ref x35, .int 0, .ref x36, .ref x37, .ref x38, .int 0, .int 0, .int 0, .int 0, .int 0, .int 0, .int 0, .int 1]))] sz) := by
  refine Met.ofW (cc := cX9_findAnswers) (maxL := 3) (ret := (some .boolean)) (by decide) rfl ?_
  intro p e s m args below meth c s₁ B hml hv
  obtain ⟨rfl, hsz, hP, hK, hD0, hE⟩ := hv
  have hx := B.exec
  have hb := B.bytes
  have hr := B.returns
  have hts := atoms_spec (ws := vs_a_X9_findAnswers_0) B.pre
  have hown : s.vm.findClass RX9 = some m.cls := findClass_of_methodNamed B.named
  have hlocks := B.notSynchronized
  subst hsz
  have hD := hD0.self (sz := s.heap.size)
  generalize hAe : va_A [(x38, .inl (ty 0, 26, .inl (fun _ => 0))), (x45, .inr (5, [.ref x46, .ref x47, .int 0, .int 0])), (x46, .inl (ty 0, 64, .inl (fun _ => 0))), (x47, .inl (ty 1, 192, .inr (.inl (fun _ => 0)))), (x21, .inr (12, [.ref x22, .ref x23, .ref x24, .ref x25, .ref x26, .ref x27, .int 0])), (x28, .inr (12, [.ref x29, .ref x30, .ref x31, .ref x32, .ref x33, .ref x34, .int 0])), (x8, .inr (8, [.ref x1, .ref x9, .ref x10, .ref x12, .ref x14, .int 0, .ref x15, .ref x16, .ref x17, .int 0, .ref x18, .ref x19, .int 0, .int 1, .int 2, .int 0])), (x20, .inr (14, [.ref x1, .ref x8, .ref x21, .ref x28, .ref x35, .int 0, .ref x36, .ref x37, .ref x38, .int 0, .int 0, .int 0, .int 0, .int 0, .int 0, .int 0, .int 1]))] s.heap.size = A at hD hE ⊢
  have hA : ∀ q : Nat, s.heap.size ≤ q → A q := fun q h => by rw [← hAe]; exact Or.inr h
  have hS : va_S A s.heap s.heap [] := va_S.rf
  have hP : va_P D vwCl [(x38, .inl (ty 0, 26, .inl (fun _ => 0))), (x45, .inr (5, [.ref x46, .ref x47, .int 0, .int 0])), (x46, .inl (ty 0, 64, .inl (fun _ => 0))), (x47, .inl (ty 1, 192, .inr (.inl (fun _ => 0)))), (x21, .inr (12, [.ref x22, .ref x23, .ref x24, .ref x25, .ref x26, .ref x27, .int 0])), (x28, .inr (12, [.ref x29, .ref x30, .ref x31, .ref x32, .ref x33, .ref x34, .int 0])), (x8, .inr (8, [.ref x1, .ref x9, .ref x10, .ref x12, .ref x14, .int 0, .ref x15, .ref x16, .ref x17, .int 0, .ref x18, .ref x19, .int 0, .int 1, .int 2, .int 0])), (x20, .inr (14, [.ref x1, .ref x8, .ref x21, .ref x28, .ref x35, .int 0, .ref x36, .ref x37, .ref x38, .int 0, .int 0, .int 0, .int 0, .int 0, .int 0, .int 0, .int 1]))] s.heap := hP
  have hl := lv_entry ([.ref x20, .ref x45]) (n := 3) (Nat.le_of_ble_eq_true rfl)
  rw [lg_entry_eq]
  generalize (lg_sl ([.ref x20, .ref x45]) ++ List.replicate (3 - (lg_sl ([.ref x20, .ref x45])).length) Slot.unset).toArray = ls at hl ⊢
  have hl : lv_has ls 3 [(0, .ref x20), (1, .ref x45)] := hl
  refine lv_aload_n hx hb dX9_findAnswers_0 rfl (lv_at hl 1 rfl) ?_
  refine lv_iconst (v := 0) hx hb dX9_findAnswers_1 (by decide) ?_
  refine va_putN (D := D) (ci := 5) (v := .int 0) (ty := tyX0 2) (C := RX0) (T := TX0) (N := 4) hx hb hts iv_a_X9_findAnswers_0_X0 tyX0 tyX0_ok nmX0 hown hK hP hD hS 1 rfl rfl 2 (by decide) (hE.at (.fieldLinkNest "AnswerFold$Solver" 215 "AnswerFold$Answers" "count" "I" "AnswerFold") (by decide +kernel)) (fun _ h9 => h9) rfl (by decide +kernel) rfl rfl (Nat.le_of_ble_eq_true rfl) dX9_findAnswers_2 (fun H locs hP hD hS => ?_)
  have hP : va_P D vwCl [(x38, .inl (ty 0, 26, .inl (fun _ => 0))), (x45, .inr (5, [.ref x46, .ref x47, .int 0, .int 0])), (x46, .inl (ty 0, 64, .inl (fun _ => 0))), (x47, .inl (ty 1, 192, .inr (.inl (fun _ => 0)))), (x21, .inr (12, [.ref x22, .ref x23, .ref x24, .ref x25, .ref x26, .ref x27, .int 0])), (x28, .inr (12, [.ref x29, .ref x30, .ref x31, .ref x32, .ref x33, .ref x34, .int 0])), (x8, .inr (8, [.ref x1, .ref x9, .ref x10, .ref x12, .ref x14, .int 0, .ref x15, .ref x16, .ref x17, .int 0, .ref x18, .ref x19, .int 0, .int 1, .int 2, .int 0])), (x20, .inr (14, [.ref x1, .ref x8, .ref x21, .ref x28, .ref x35, .int 0, .ref x36, .ref x37, .ref x38, .int 0, .int 0, .int 0, .int 0, .int 0, .int 0, .int 0, .int 1]))] H := hP
  have hD : va_D A [(x38, .inl (ty 0, 26, .inl (fun _ => 0))), (x45, .inr (5, [.ref x46, .ref x47, .int 0, .int 0])), (x46, .inl (ty 0, 64, .inl (fun _ => 0))), (x47, .inl (ty 1, 192, .inr (.inl (fun _ => 0)))), (x21, .inr (12, [.ref x22, .ref x23, .ref x24, .ref x25, .ref x26, .ref x27, .int 0])), (x28, .inr (12, [.ref x29, .ref x30, .ref x31, .ref x32, .ref x33, .ref x34, .int 0])), (x8, .inr (8, [.ref x1, .ref x9, .ref x10, .ref x12, .ref x14, .int 0, .ref x15, .ref x16, .ref x17, .int 0, .ref x18, .ref x19, .int 0, .int 1, .int 2, .int 0])), (x20, .inr (14, [.ref x1, .ref x8, .ref x21, .ref x28, .ref x35, .int 0, .ref x36, .ref x37, .ref x38, .int 0, .int 0, .int 0, .int 0, .int 0, .int 0, .int 0, .int 1]))] := hD
  refine lv_aload_n hx hb dX9_findAnswers_5 rfl (lv_at hl 0 rfl) ?_
  refine wq_i (wc := [(x8, .inr (8, [.ref x1, .ref x9, .ref x10, .ref x12, .ref x14, .int 0, .ref x15, .ref x16, .ref x17, .int 0, .ref x18, .ref x19, .int 0, .int 1, .int 2, .int 0])), (x20, .inr (14, [.ref x1, .ref x8, .ref x21, .ref x28, .ref x35, .int 0, .ref x36, .ref x37, .ref x38, .int 0, .int 0, .int 0, .int 0, .int 0, .int 0, .int 0, .int 1]))]) (wr := [(x38, .inl (ty 0, 26, .inl (fun _ => 0))), (x45, .inr (5, [.ref x46, .ref x47, .int 0, .int 0])), (x46, .inl (ty 0, 64, .inl (fun _ => 0))), (x47, .inl (ty 1, 192, .inr (.inl (fun _ => 0)))), (x21, .inr (12, [.ref x22, .ref x23, .ref x24, .ref x25, .ref x26, .ref x27, .int 0])), (x28, .inr (12, [.ref x29, .ref x30, .ref x31, .ref x32, .ref x33, .ref x34, .int 0]))]) (va_runV (As := []) (rest := []) ⟨hx, hb, hml, hown, hts⟩ (a_X9_fullSet_0 l D ty td mi H.size x8 x1 x9 x10 x12 x14 x15 x16 x17 x18 x19 x20 x21 x28 x35 x36 x37 x38) (cwV 0 hts gv_a_X9_findAnswers_0_0 rfl rfl rfl (by decide +kernel) ⟨(Nat.le_of_ble_eq_true rfl), (Nat.le_of_ble_eq_true rfl)⟩) (wq_preV hP hD hK hE hS hA [6, 7] rfl (by decide) 7 14 rfl rfl) rfl rfl hl.1 rfl (lv_room (Nat.le_of_ble_eq_true rfl)) dX9_findAnswers_6 ⟨(Nat.le_of_ble_eq_true rfl), (Nat.le_of_ble_eq_true rfl)⟩) hS hA hP hD [6, 7] [0, 1, 2, 3, 4, 5] rfl rfl (by decide) (by decide) (fun r u H locs hw hP hD hS => ?_)
  obtain ⟨rfl, rfl⟩ := hw
  have hP : va_P D vwCl [(x38, .inl (ty 0, 26, .inl (fun _ => 0))), (x45, .inr (5, [.ref x46, .ref x47, .int 0, .int 0])), (x46, .inl (ty 0, 64, .inl (fun _ => 0))), (x47, .inl (ty 1, 192, .inr (.inl (fun _ => 0)))), (x21, .inr (12, [.ref x22, .ref x23, .ref x24, .ref x25, .ref x26, .ref x27, .int 0])), (x28, .inr (12, [.ref x29, .ref x30, .ref x31, .ref x32, .ref x33, .ref x34, .int 0])), (x8, .inr (8, [.ref x1, .ref x9, .ref x10, .ref x12, .ref x14, .int 0, .ref x15, .ref x16, .ref x17, .int 0, .ref x18, .ref x19, .int 0, .int 1, .int 2, .int 0])), (x20, .inr (14, [.ref x1, .ref x8, .ref x21, .ref x28, .ref x35, .int 0, .ref x36, .ref x37, .ref x38, .int 0, .int 0, .int 0, .int 0, .int 0, .int 0, .int 0, .int 1]))] H := hP
  have hD : va_D A [(x38, .inl (ty 0, 26, .inl (fun _ => 0))), (x45, .inr (5, [.ref x46, .ref x47, .int 0, .int 0])), (x46, .inl (ty 0, 64, .inl (fun _ => 0))), (x47, .inl (ty 1, 192, .inr (.inl (fun _ => 0)))), (x21, .inr (12, [.ref x22, .ref x23, .ref x24, .ref x25, .ref x26, .ref x27, .int 0])), (x28, .inr (12, [.ref x29, .ref x30, .ref x31, .ref x32, .ref x33, .ref x34, .int 0])), (x8, .inr (8, [.ref x1, .ref x9, .ref x10, .ref x12, .ref x14, .int 0, .ref x15, .ref x16, .ref x17, .int 0, .ref x18, .ref x19, .int 0, .int 1, .int 2, .int 0])), (x20, .inr (14, [.ref x1, .ref x8, .ref x21, .ref x28, .ref x35, .int 0, .ref x36, .ref x37, .ref x38, .int 0, .int 0, .int 0, .int 0, .int 0, .int 0, .int 0, .int 1]))] := hD
  refine W.widen (k := 0) (n := 0) (Nat.le_of_ble_eq_true rfl) (Nat.le_of_ble_eq_true rfl) ?_
  refine lv_istore_n (lv' := [(2, .int 0), (0, .ref x20), (1, .ref x45)]) hx hb dX9_findAnswers_9 rfl hl (by decide) rfl (fun ls hl => ?_)
  refine lv_iload_n hx hb dX9_findAnswers_10 rfl (lv_at hl 0 rfl) ?_
  refine lv_if_lt (tgt := 72) hx hb dX9_findAnswers_11 (by decide) (fun c0 => absurd c0 (by decide)) (fun _ => ?_)
  refine lv_aload_n hx hb dX9_findAnswers_14 rfl (lv_at hl 1 rfl) ?_
  refine lv_iload_n hx hb dX9_findAnswers_15 rfl (lv_at hl 0 rfl) ?_
  refine wq_i (wc := [(x20, .inr (14, [.ref x1, .ref x8, .ref x21, .ref x28, .ref x35, .int 0, .ref x36, .ref x37, .ref x38, .int 0, .int 0, .int 0, .int 0, .int 0, .int 0, .int 0, .int 1]))]) (wr := [(x38, .inl (ty 0, 26, .inl (fun _ => 0))), (x45, .inr (5, [.ref x46, .ref x47, .int 0, .int 0])), (x46, .inl (ty 0, 64, .inl (fun _ => 0))), (x47, .inl (ty 1, 192, .inr (.inl (fun _ => 0)))), (x21, .inr (12, [.ref x22, .ref x23, .ref x24, .ref x25, .ref x26, .ref x27, .int 0])), (x28, .inr (12, [.ref x29, .ref x30, .ref x31, .ref x32, .ref x33, .ref x34, .int 0])), (x8, .inr (8, [.ref x1, .ref x9, .ref x10, .ref x12, .ref x14, .int 0, .ref x15, .ref x16, .ref x17, .int 0, .ref x18, .ref x19, .int 0, .int 1, .int 2, .int 0]))]) (va_runV (As := [.int 0]) (rest := []) ⟨hx, hb, hml, hown, hts⟩ (a_X9_fits_0 l D ty td mi H.size x20 x1 x8 x21 x28 x35 x36 x37 x38) (cwV 1 hts gv_a_X9_findAnswers_0_1 rfl rfl rfl (by decide +kernel) ⟨(Nat.le_of_ble_eq_true rfl), (Nat.le_of_ble_eq_true rfl)⟩) (wq_preV hP hD hK hE hS hA [7] rfl (by decide) 7 14 rfl rfl) rfl rfl hl.1 rfl (lv_room (Nat.le_of_ble_eq_true rfl)) dX9_findAnswers_16 ⟨(Nat.le_of_ble_eq_true rfl), (Nat.le_of_ble_eq_true rfl)⟩) hS hA hP hD [7] [0, 1, 2, 3, 4, 5, 6] rfl rfl (by decide) (by decide) (fun r u H locs hw hP hD hS => ?_)
  obtain ⟨rfl, rfl⟩ := hw
  have hP : va_P D vwCl [(x38, .inl (ty 0, 26, .inl (fun _ => 0))), (x45, .inr (5, [.ref x46, .ref x47, .int 0, .int 0])), (x46, .inl (ty 0, 64, .inl (fun _ => 0))), (x47, .inl (ty 1, 192, .inr (.inl (fun _ => 0)))), (x21, .inr (12, [.ref x22, .ref x23, .ref x24, .ref x25, .ref x26, .ref x27, .int 0])), (x28, .inr (12, [.ref x29, .ref x30, .ref x31, .ref x32, .ref x33, .ref x34, .int 0])), (x8, .inr (8, [.ref x1, .ref x9, .ref x10, .ref x12, .ref x14, .int 0, .ref x15, .ref x16, .ref x17, .int 0, .ref x18, .ref x19, .int 0, .int 1, .int 2, .int 0])), (x20, .inr (14, [.ref x1, .ref x8, .ref x21, .ref x28, .ref x35, .int 0, .ref x36, .ref x37, .ref x38, .int 0, .int 0, .int 0, .int 0, .int 0, .int 0, .int 0, .int 1]))] H := hP
  have hD : va_D A [(x38, .inl (ty 0, 26, .inl (fun _ => 0))), (x45, .inr (5, [.ref x46, .ref x47, .int 0, .int 0])), (x46, .inl (ty 0, 64, .inl (fun _ => 0))), (x47, .inl (ty 1, 192, .inr (.inl (fun _ => 0)))), (x21, .inr (12, [.ref x22, .ref x23, .ref x24, .ref x25, .ref x26, .ref x27, .int 0])), (x28, .inr (12, [.ref x29, .ref x30, .ref x31, .ref x32, .ref x33, .ref x34, .int 0])), (x8, .inr (8, [.ref x1, .ref x9, .ref x10, .ref x12, .ref x14, .int 0, .ref x15, .ref x16, .ref x17, .int 0, .ref x18, .ref x19, .int 0, .int 1, .int 2, .int 0])), (x20, .inr (14, [.ref x1, .ref x8, .ref x21, .ref x28, .ref x35, .int 0, .ref x36, .ref x37, .ref x38, .int 0, .int 0, .int 0, .int 0, .int 0, .int 0, .int 0, .int 1]))] := hD
  refine W.widen (k := 0) (n := 0) (Nat.le_of_ble_eq_true rfl) (Nat.le_of_ble_eq_true rfl) ?_
  refine lv_if_eq (tgt := 66) hx hb dX9_findAnswers_19 (by decide) (fun c0 => absurd c0 (by decide)) (fun _ => ?_)
  refine lv_aload_n hx hb dX9_findAnswers_22 rfl (lv_at hl 1 rfl) ?_
  refine lv_iload_n hx hb dX9_findAnswers_23 rfl (lv_at hl 0 rfl) ?_
  refine wq_i (wc := [(x21, .inr (12, [.ref x22, .ref x23, .ref x24, .ref x25, .ref x26, .ref x27, .int 0])), (x20, .inr (14, [.ref x1, .ref x8, .ref x21, .ref x28, .ref x35, .int 0, .ref x36, .ref x37, .ref x38, .int 0, .int 0, .int 0, .int 0, .int 0, .int 0, .int 0, .int 1]))]) (wr := [(x38, .inl (ty 0, 26, .inl (fun _ => 0))), (x45, .inr (5, [.ref x46, .ref x47, .int 0, .int 0])), (x46, .inl (ty 0, 64, .inl (fun _ => 0))), (x47, .inl (ty 1, 192, .inr (.inl (fun _ => 0)))), (x28, .inr (12, [.ref x29, .ref x30, .ref x31, .ref x32, .ref x33, .ref x34, .int 0])), (x8, .inr (8, [.ref x1, .ref x9, .ref x10, .ref x12, .ref x14, .int 0, .ref x15, .ref x16, .ref x17, .int 0, .ref x18, .ref x19, .int 0, .int 1, .int 2, .int 0]))]) (va_runV (As := [.int 0]) (rest := []) ⟨hx, hb, hml, hown, hts⟩ (a_X9_isModel_0 l D ty td mi H.size x21 x22 x23 x24 x25 x26 x27 x20 x1 x8 x28 x35 x36 x37 x38) (cwV 1 hts gv_a_X9_findAnswers_0_2 rfl rfl rfl (by decide +kernel) ⟨(Nat.le_of_ble_eq_true rfl), (Nat.le_of_ble_eq_true rfl)⟩) (wq_preV hP hD hK hE hS hA [4, 7] rfl (by decide) 7 14 rfl rfl) rfl rfl hl.1 rfl (lv_room (Nat.le_of_ble_eq_true rfl)) dX9_findAnswers_24 ⟨(Nat.le_of_ble_eq_true rfl), (Nat.le_of_ble_eq_true rfl)⟩) hS hA hP hD [4, 7] [0, 1, 2, 3, 5, 6] rfl rfl (by decide) (by decide) (fun r u H locs hw hP hD hS => ?_)
  obtain ⟨rfl, rfl⟩ := hw
  have hP : va_P D vwCl [(x38, .inl (ty 0, 26, .inl (fun _ => 0))), (x45, .inr (5, [.ref x46, .ref x47, .int 0, .int 0])), (x46, .inl (ty 0, 64, .inl (fun _ => 0))), (x47, .inl (ty 1, 192, .inr (.inl (fun _ => 0)))), (x28, .inr (12, [.ref x29, .ref x30, .ref x31, .ref x32, .ref x33, .ref x34, .int 0])), (x8, .inr (8, [.ref x1, .ref x9, .ref x10, .ref x12, .ref x14, .int 0, .ref x15, .ref x16, .ref x17, .int 0, .ref x18, .ref x19, .int 0, .int 1, .int 2, .int 0])), (x21, .inr (12, [.ref x22, .ref x23, .ref x24, .ref x25, .ref x26, .ref x27, .int 0])), (x20, .inr (14, [.ref x1, .ref x8, .ref x21, .ref x28, .ref x35, .int 0, .ref x36, .ref x37, .ref x38, .int 0, .int 0, .int 0, .int 0, .int 0, .int 0, .int 0, .int 1]))] H := hP
  have hD : va_D A [(x38, .inl (ty 0, 26, .inl (fun _ => 0))), (x45, .inr (5, [.ref x46, .ref x47, .int 0, .int 0])), (x46, .inl (ty 0, 64, .inl (fun _ => 0))), (x47, .inl (ty 1, 192, .inr (.inl (fun _ => 0)))), (x28, .inr (12, [.ref x29, .ref x30, .ref x31, .ref x32, .ref x33, .ref x34, .int 0])), (x8, .inr (8, [.ref x1, .ref x9, .ref x10, .ref x12, .ref x14, .int 0, .ref x15, .ref x16, .ref x17, .int 0, .ref x18, .ref x19, .int 0, .int 1, .int 2, .int 0])), (x21, .inr (12, [.ref x22, .ref x23, .ref x24, .ref x25, .ref x26, .ref x27, .int 0])), (x20, .inr (14, [.ref x1, .ref x8, .ref x21, .ref x28, .ref x35, .int 0, .ref x36, .ref x37, .ref x38, .int 0, .int 0, .int 0, .int 0, .int 0, .int 0, .int 0, .int 1]))] := hD
  refine W.widen (k := 0) (n := 0) (Nat.le_of_ble_eq_true rfl) (Nat.le_of_ble_eq_true rfl) ?_
  refine lv_if_eq (tgt := 66) hx hb dX9_findAnswers_27 (by decide) (fun c0 => absurd c0 (by decide)) (fun _ => ?_)
  refine lv_aload_n hx hb dX9_findAnswers_30 rfl (lv_at hl 1 rfl) ?_
  refine lv_iload_n hx hb dX9_findAnswers_31 rfl (lv_at hl 0 rfl) ?_
  refine wq_i (wc := [(x38, .inl (ty 0, 26, .inl (fun _ => 0))), (x21, .inr (12, [.ref x22, .ref x23, .ref x24, .ref x25, .ref x26, .ref x27, .int 0])), (x20, .inr (14, [.ref x1, .ref x8, .ref x21, .ref x28, .ref x35, .int 0, .ref x36, .ref x37, .ref x38, .int 0, .int 0, .int 0, .int 0, .int 0, .int 0, .int 0, .int 1]))]) (wr := [(x45, .inr (5, [.ref x46, .ref x47, .int 0, .int 0])), (x46, .inl (ty 0, 64, .inl (fun _ => 0))), (x47, .inl (ty 1, 192, .inr (.inl (fun _ => 0)))), (x28, .inr (12, [.ref x29, .ref x30, .ref x31, .ref x32, .ref x33, .ref x34, .int 0])), (x8, .inr (8, [.ref x1, .ref x9, .ref x10, .ref x12, .ref x14, .int 0, .ref x15, .ref x16, .ref x17, .int 0, .ref x18, .ref x19, .int 0, .int 1, .int 2, .int 0]))]) (va_runV (As := [.int 0]) (rest := []) ⟨hx, hb, hml, hown, hts⟩ (a_X9_hasSmaller_0 l D ty td mi H.size x38 x21 x22 x23 x24 x25 x26 x27 x20 x1 x8 x28 x35 x36 x37) (cwV 1 hts gv_a_X9_findAnswers_0_3 rfl rfl rfl (by decide +kernel) ⟨(Nat.le_of_ble_eq_true rfl), (Nat.le_of_ble_eq_true rfl)⟩) (wq_preV hP hD hK hE hS hA [0, 6, 7] rfl (by decide) 7 14 rfl rfl) rfl rfl hl.1 rfl (lv_room (Nat.le_of_ble_eq_true rfl)) dX9_findAnswers_32 ⟨(Nat.le_of_ble_eq_true rfl), (Nat.le_of_ble_eq_true rfl)⟩) hS hA hP hD [0, 6, 7] [1, 2, 3, 4, 5] rfl rfl (by decide) (by decide) (fun r u H locs hw hP hD hS => ?_)
  obtain ⟨rfl, rfl⟩ := hw
  have hP : va_P D vwCl [(x45, .inr (5, [.ref x46, .ref x47, .int 0, .int 0])), (x46, .inl (ty 0, 64, .inl (fun _ => 0))), (x47, .inl (ty 1, 192, .inr (.inl (fun _ => 0)))), (x28, .inr (12, [.ref x29, .ref x30, .ref x31, .ref x32, .ref x33, .ref x34, .int 0])), (x8, .inr (8, [.ref x1, .ref x9, .ref x10, .ref x12, .ref x14, .int 0, .ref x15, .ref x16, .ref x17, .int 0, .ref x18, .ref x19, .int 0, .int 1, .int 2, .int 0])), (x38, .inl (ty 0, 26, .inl (fun _ => 0))), (x21, .inr (12, [.ref x22, .ref x23, .ref x24, .ref x25, .ref x26, .ref x27, .int 0])), (x20, .inr (14, [.ref x1, .ref x8, .ref x21, .ref x28, .ref x35, .int 0, .ref x36, .ref x37, .ref x38, .int 0, .int 0, .int 0, .int 0, .int 0, .int 0, .int 0, .int 1]))] H := hP
  have hD : va_D A [(x45, .inr (5, [.ref x46, .ref x47, .int 0, .int 0])), (x46, .inl (ty 0, 64, .inl (fun _ => 0))), (x47, .inl (ty 1, 192, .inr (.inl (fun _ => 0)))), (x28, .inr (12, [.ref x29, .ref x30, .ref x31, .ref x32, .ref x33, .ref x34, .int 0])), (x8, .inr (8, [.ref x1, .ref x9, .ref x10, .ref x12, .ref x14, .int 0, .ref x15, .ref x16, .ref x17, .int 0, .ref x18, .ref x19, .int 0, .int 1, .int 2, .int 0])), (x38, .inl (ty 0, 26, .inl (fun _ => 0))), (x21, .inr (12, [.ref x22, .ref x23, .ref x24, .ref x25, .ref x26, .ref x27, .int 0])), (x20, .inr (14, [.ref x1, .ref x8, .ref x21, .ref x28, .ref x35, .int 0, .ref x36, .ref x37, .ref x38, .int 0, .int 0, .int 0, .int 0, .int 0, .int 0, .int 0, .int 1]))] := hD
  refine W.widen (k := 0) (n := 0) (Nat.le_of_ble_eq_true rfl) (Nat.le_of_ble_eq_true rfl) ?_
  refine lv_if_ne (tgt := 66) hx hb dX9_findAnswers_35 (by decide) (fun c0 => absurd (by decide) c0) (fun _ => ?_)
  refine lv_aload_n hx hb dX9_findAnswers_38 rfl (lv_at hl 2 rfl) ?_
  refine lv_iload_n hx hb dX9_findAnswers_39 rfl (lv_at hl 0 rfl) ?_
  refine lv_aload_n hx hb dX9_findAnswers_40 rfl (lv_at hl 1 rfl) ?_
  refine lv_iload_n hx hb dX9_findAnswers_41 rfl (lv_at hl 0 rfl) ?_
  refine lv_iconst (v := 1) hx hb dX9_findAnswers_42 (by decide) ?_
  refine wq_l (wc := [(x28, .inr (12, [.ref x29, .ref x30, .ref x31, .ref x32, .ref x33, .ref x34, .int 0])), (x20, .inr (14, [.ref x1, .ref x8, .ref x21, .ref x28, .ref x35, .int 0, .ref x36, .ref x37, .ref x38, .int 0, .int 0, .int 0, .int 0, .int 0, .int 0, .int 0, .int 1]))]) (wr := [(x45, .inr (5, [.ref x46, .ref x47, .int 0, .int 0])), (x46, .inl (ty 0, 64, .inl (fun _ => 0))), (x47, .inl (ty 1, 192, .inr (.inl (fun _ => 0)))), (x8, .inr (8, [.ref x1, .ref x9, .ref x10, .ref x12, .ref x14, .int 0, .ref x15, .ref x16, .ref x17, .int 0, .ref x18, .ref x19, .int 0, .int 1, .int 2, .int 0])), (x38, .inl (ty 0, 26, .inl (fun _ => 0))), (x21, .inr (12, [.ref x22, .ref x23, .ref x24, .ref x25, .ref x26, .ref x27, .int 0]))]) (va_runV (As := [.int 0, .int 1]) (rest := [.int 0, .ref x45]) ⟨hx, hb, hml, hown, hts⟩ (a_X9_costOf_0 l D ty td mi H.size x28 x29 x30 x31 x32 x33 x34 x20 x1 x8 x21 x35 x36 x37 x38) (cwV 2 hts gv_a_X9_findAnswers_0_4 rfl rfl rfl (by decide +kernel) ⟨(Nat.le_of_ble_eq_true rfl), (Nat.le_of_ble_eq_true rfl)⟩) (wq_preV hP hD hK hE hS hA [3, 7] rfl (by decide) 7 14 rfl rfl) rfl rfl hl.1 rfl (lv_room (Nat.le_of_ble_eq_true rfl)) dX9_findAnswers_43 ⟨(Nat.le_of_ble_eq_true rfl), (Nat.le_of_ble_eq_true rfl)⟩) hS hA hP hD [3, 7] [0, 1, 2, 4, 5, 6] rfl rfl (by decide) (by decide) (fun r u H locs hw hP hD hS => ?_)
  obtain ⟨rfl, rfl⟩ := hw
  have hP : va_P D vwCl [(x45, .inr (5, [.ref x46, .ref x47, .int 0, .int 0])), (x46, .inl (ty 0, 64, .inl (fun _ => 0))), (x47, .inl (ty 1, 192, .inr (.inl (fun _ => 0)))), (x8, .inr (8, [.ref x1, .ref x9, .ref x10, .ref x12, .ref x14, .int 0, .ref x15, .ref x16, .ref x17, .int 0, .ref x18, .ref x19, .int 0, .int 1, .int 2, .int 0])), (x38, .inl (ty 0, 26, .inl (fun _ => 0))), (x21, .inr (12, [.ref x22, .ref x23, .ref x24, .ref x25, .ref x26, .ref x27, .int 0])), (x28, .inr (12, [.ref x29, .ref x30, .ref x31, .ref x32, .ref x33, .ref x34, .int 0])), (x20, .inr (14, [.ref x1, .ref x8, .ref x21, .ref x28, .ref x35, .int 0, .ref x36, .ref x37, .ref x38, .int 0, .int 0, .int 0, .int 0, .int 0, .int 0, .int 0, .int 1]))] H := hP
  have hD : va_D A [(x45, .inr (5, [.ref x46, .ref x47, .int 0, .int 0])), (x46, .inl (ty 0, 64, .inl (fun _ => 0))), (x47, .inl (ty 1, 192, .inr (.inl (fun _ => 0)))), (x8, .inr (8, [.ref x1, .ref x9, .ref x10, .ref x12, .ref x14, .int 0, .ref x15, .ref x16, .ref x17, .int 0, .ref x18, .ref x19, .int 0, .int 1, .int 2, .int 0])), (x38, .inl (ty 0, 26, .inl (fun _ => 0))), (x21, .inr (12, [.ref x22, .ref x23, .ref x24, .ref x25, .ref x26, .ref x27, .int 0])), (x28, .inr (12, [.ref x29, .ref x30, .ref x31, .ref x32, .ref x33, .ref x34, .int 0])), (x20, .inr (14, [.ref x1, .ref x8, .ref x21, .ref x28, .ref x35, .int 0, .ref x36, .ref x37, .ref x38, .int 0, .int 0, .int 0, .int 0, .int 0, .int 0, .int 0, .int 1]))] := hD
  refine W.widen (k := 0) (n := 0) (Nat.le_of_ble_eq_true rfl) (Nat.le_of_ble_eq_true rfl) ?_
  refine lv_aload_n hx hb dX9_findAnswers_46 rfl (lv_at hl 1 rfl) ?_
  refine lv_iload_n hx hb dX9_findAnswers_47 rfl (lv_at hl 0 rfl) ?_
  refine lv_iconst (v := 2) hx hb dX9_findAnswers_48 (by decide) ?_
  refine wq_l (wc := [(x28, .inr (12, [.ref x29, .ref x30, .ref x31, .ref x32, .ref x33, .ref x34, .int 0])), (x20, .inr (14, [.ref x1, .ref x8, .ref x21, .ref x28, .ref x35, .int 0, .ref x36, .ref x37, .ref x38, .int 0, .int 0, .int 0, .int 0, .int 0, .int 0, .int 0, .int 1]))]) (wr := [(x45, .inr (5, [.ref x46, .ref x47, .int 0, .int 0])), (x46, .inl (ty 0, 64, .inl (fun _ => 0))), (x47, .inl (ty 1, 192, .inr (.inl (fun _ => 0)))), (x8, .inr (8, [.ref x1, .ref x9, .ref x10, .ref x12, .ref x14, .int 0, .ref x15, .ref x16, .ref x17, .int 0, .ref x18, .ref x19, .int 0, .int 1, .int 2, .int 0])), (x38, .inl (ty 0, 26, .inl (fun _ => 0))), (x21, .inr (12, [.ref x22, .ref x23, .ref x24, .ref x25, .ref x26, .ref x27, .int 0]))]) (va_runV (As := [.int 0, .int 2]) (rest := [.long 0, .int 0, .ref x45]) ⟨hx, hb, hml, hown, hts⟩ (a_X9_costOf_1 l D ty td mi H.size x28 x29 x30 x31 x32 x33 x34 x20 x1 x8 x21 x35 x36 x37 x38) (cwV 2 hts gv_a_X9_findAnswers_0_5 rfl rfl rfl (by decide +kernel) ⟨(Nat.le_of_ble_eq_true rfl), (Nat.le_of_ble_eq_true rfl)⟩) (wq_preV hP hD hK hE hS hA [6, 7] rfl (by decide) 7 14 rfl rfl) rfl rfl hl.1 rfl (lv_room (Nat.le_of_ble_eq_true rfl)) dX9_findAnswers_49 ⟨(Nat.le_of_ble_eq_true rfl), (Nat.le_of_ble_eq_true rfl)⟩) hS hA hP hD [6, 7] [0, 1, 2, 3, 4, 5] rfl rfl (by decide) (by decide) (fun r u H locs hw hP hD hS => ?_)
  obtain ⟨rfl, rfl⟩ := hw
  have hP : va_P D vwCl [(x45, .inr (5, [.ref x46, .ref x47, .int 0, .int 0])), (x46, .inl (ty 0, 64, .inl (fun _ => 0))), (x47, .inl (ty 1, 192, .inr (.inl (fun _ => 0)))), (x8, .inr (8, [.ref x1, .ref x9, .ref x10, .ref x12, .ref x14, .int 0, .ref x15, .ref x16, .ref x17, .int 0, .ref x18, .ref x19, .int 0, .int 1, .int 2, .int 0])), (x38, .inl (ty 0, 26, .inl (fun _ => 0))), (x21, .inr (12, [.ref x22, .ref x23, .ref x24, .ref x25, .ref x26, .ref x27, .int 0])), (x28, .inr (12, [.ref x29, .ref x30, .ref x31, .ref x32, .ref x33, .ref x34, .int 0])), (x20, .inr (14, [.ref x1, .ref x8, .ref x21, .ref x28, .ref x35, .int 0, .ref x36, .ref x37, .ref x38, .int 0, .int 0, .int 0, .int 0, .int 0, .int 0, .int 0, .int 1]))] H := hP
  have hD : va_D A [(x45, .inr (5, [.ref x46, .ref x47, .int 0, .int 0])), (x46, .inl (ty 0, 64, .inl (fun _ => 0))), (x47, .inl (ty 1, 192, .inr (.inl (fun _ => 0)))), (x8, .inr (8, [.ref x1, .ref x9, .ref x10, .ref x12, .ref x14, .int 0, .ref x15, .ref x16, .ref x17, .int 0, .ref x18, .ref x19, .int 0, .int 1, .int 2, .int 0])), (x38, .inl (ty 0, 26, .inl (fun _ => 0))), (x21, .inr (12, [.ref x22, .ref x23, .ref x24, .ref x25, .ref x26, .ref x27, .int 0])), (x28, .inr (12, [.ref x29, .ref x30, .ref x31, .ref x32, .ref x33, .ref x34, .int 0])), (x20, .inr (14, [.ref x1, .ref x8, .ref x21, .ref x28, .ref x35, .int 0, .ref x36, .ref x37, .ref x38, .int 0, .int 0, .int 0, .int 0, .int 0, .int 0, .int 0, .int 1]))] := hD
  refine W.widen (k := 0) (n := 0) (Nat.le_of_ble_eq_true rfl) (Nat.le_of_ble_eq_true rfl) ?_
  refine lv_aload_n hx hb dX9_findAnswers_52 rfl (lv_at hl 1 rfl) ?_
  refine lv_iload_n hx hb dX9_findAnswers_53 rfl (lv_at hl 0 rfl) ?_
  refine lv_iconst (v := 3) hx hb dX9_findAnswers_54 (by decide) ?_
  refine wq_l (wc := [(x28, .inr (12, [.ref x29, .ref x30, .ref x31, .ref x32, .ref x33, .ref x34, .int 0])), (x20, .inr (14, [.ref x1, .ref x8, .ref x21, .ref x28, .ref x35, .int 0, .ref x36, .ref x37, .ref x38, .int 0, .int 0, .int 0, .int 0, .int 0, .int 0, .int 0, .int 1]))]) (wr := [(x45, .inr (5, [.ref x46, .ref x47, .int 0, .int 0])), (x46, .inl (ty 0, 64, .inl (fun _ => 0))), (x47, .inl (ty 1, 192, .inr (.inl (fun _ => 0)))), (x8, .inr (8, [.ref x1, .ref x9, .ref x10, .ref x12, .ref x14, .int 0, .ref x15, .ref x16, .ref x17, .int 0, .ref x18, .ref x19, .int 0, .int 1, .int 2, .int 0])), (x38, .inl (ty 0, 26, .inl (fun _ => 0))), (x21, .inr (12, [.ref x22, .ref x23, .ref x24, .ref x25, .ref x26, .ref x27, .int 0]))]) (va_runV (As := [.int 0, .int 3]) (rest := [.long 0, .long 0, .int 0, .ref x45]) ⟨hx, hb, hml, hown, hts⟩ (a_X9_costOf_2 l D ty td mi H.size x28 x29 x30 x31 x32 x33 x34 x20 x1 x8 x21 x35 x36 x37 x38) (cwV 2 hts gv_a_X9_findAnswers_0_6 rfl rfl rfl (by decide +kernel) ⟨(Nat.le_of_ble_eq_true rfl), (Nat.le_of_ble_eq_true rfl)⟩) (wq_preV hP hD hK hE hS hA [6, 7] rfl (by decide) 7 14 rfl rfl) rfl rfl hl.1 rfl (lv_room (Nat.le_of_ble_eq_true rfl)) dX9_findAnswers_55 ⟨(Nat.le_of_ble_eq_true rfl), (Nat.le_of_ble_eq_true rfl)⟩) hS hA hP hD [6, 7] [0, 1, 2, 3, 4, 5] rfl rfl (by decide) (by decide) (fun r u H locs hw hP hD hS => ?_)
  obtain ⟨rfl, rfl⟩ := hw
  have hP : va_P D vwCl [(x45, .inr (5, [.ref x46, .ref x47, .int 0, .int 0])), (x46, .inl (ty 0, 64, .inl (fun _ => 0))), (x47, .inl (ty 1, 192, .inr (.inl (fun _ => 0)))), (x8, .inr (8, [.ref x1, .ref x9, .ref x10, .ref x12, .ref x14, .int 0, .ref x15, .ref x16, .ref x17, .int 0, .ref x18, .ref x19, .int 0, .int 1, .int 2, .int 0])), (x38, .inl (ty 0, 26, .inl (fun _ => 0))), (x21, .inr (12, [.ref x22, .ref x23, .ref x24, .ref x25, .ref x26, .ref x27, .int 0])), (x28, .inr (12, [.ref x29, .ref x30, .ref x31, .ref x32, .ref x33, .ref x34, .int 0])), (x20, .inr (14, [.ref x1, .ref x8, .ref x21, .ref x28, .ref x35, .int 0, .ref x36, .ref x37, .ref x38, .int 0, .int 0, .int 0, .int 0, .int 0, .int 0, .int 0, .int 1]))] H := hP
  have hD : va_D A [(x45, .inr (5, [.ref x46, .ref x47, .int 0, .int 0])), (x46, .inl (ty 0, 64, .inl (fun _ => 0))), (x47, .inl (ty 1, 192, .inr (.inl (fun _ => 0)))), (x8, .inr (8, [.ref x1, .ref x9, .ref x10, .ref x12, .ref x14, .int 0, .ref x15, .ref x16, .ref x17, .int 0, .ref x18, .ref x19, .int 0, .int 1, .int 2, .int 0])), (x38, .inl (ty 0, 26, .inl (fun _ => 0))), (x21, .inr (12, [.ref x22, .ref x23, .ref x24, .ref x25, .ref x26, .ref x27, .int 0])), (x28, .inr (12, [.ref x29, .ref x30, .ref x31, .ref x32, .ref x33, .ref x34, .int 0])), (x20, .inr (14, [.ref x1, .ref x8, .ref x21, .ref x28, .ref x35, .int 0, .ref x36, .ref x37, .ref x38, .int 0, .int 0, .int 0, .int 0, .int 0, .int 0, .int 0, .int 1]))] := hD
  refine W.widen (k := 0) (n := 0) (Nat.le_of_ble_eq_true rfl) (Nat.le_of_ble_eq_true rfl) ?_
  refine wq_i (wc := [(x45, .inr (5, [.ref x46, .ref x47, .int 0, .int 0])), (x46, .inl (ty 0, 64, .inl (fun _ => 0))), (x47, .inl (ty 1, 192, .inr (.inl (fun _ => 0))))]) (wr := [(x8, .inr (8, [.ref x1, .ref x9, .ref x10, .ref x12, .ref x14, .int 0, .ref x15, .ref x16, .ref x17, .int 0, .ref x18, .ref x19, .int 0, .int 1, .int 2, .int 0])), (x38, .inl (ty 0, 26, .inl (fun _ => 0))), (x21, .inr (12, [.ref x22, .ref x23, .ref x24, .ref x25, .ref x26, .ref x27, .int 0])), (x28, .inr (12, [.ref x29, .ref x30, .ref x31, .ref x32, .ref x33, .ref x34, .int 0])), (x20, .inr (14, [.ref x1, .ref x8, .ref x21, .ref x28, .ref x35, .int 0, .ref x36, .ref x37, .ref x38, .int 0, .int 0, .int 0, .int 0, .int 0, .int 0, .int 0, .int 1]))]) (va_runV (As := [.int 0, .long 0, .long 0, .long 0]) (rest := []) ⟨hx, hb, hml, hown, hts⟩ (a_X0_insert_0 l D ty td mi H.size x45 x46 x47) (cwV 4 hts gv_a_X9_findAnswers_0_7 rfl rfl rfl (by decide +kernel) ⟨(Nat.le_of_ble_eq_true rfl), (Nat.le_of_ble_eq_true rfl)⟩) (wq_preV hP hD hK hE hS hA [0, 1, 2] rfl (by decide) 0 5 rfl rfl) rfl rfl hl.1 rfl (lv_room (Nat.le_of_ble_eq_true rfl)) dX9_findAnswers_58 ⟨(Nat.le_of_ble_eq_true rfl), (Nat.le_of_ble_eq_true rfl)⟩) hS hA hP hD [0, 1, 2] [3, 4, 5, 6, 7] rfl rfl (by decide) (by decide) (fun r u H locs hw hP hD hS => ?_)
  obtain ⟨rfl, rfl⟩ := hw
  have hP : va_P D vwCl [(x8, .inr (8, [.ref x1, .ref x9, .ref x10, .ref x12, .ref x14, .int 0, .ref x15, .ref x16, .ref x17, .int 0, .ref x18, .ref x19, .int 0, .int 1, .int 2, .int 0])), (x38, .inl (ty 0, 26, .inl (fun _ => 0))), (x21, .inr (12, [.ref x22, .ref x23, .ref x24, .ref x25, .ref x26, .ref x27, .int 0])), (x28, .inr (12, [.ref x29, .ref x30, .ref x31, .ref x32, .ref x33, .ref x34, .int 0])), (x20, .inr (14, [.ref x1, .ref x8, .ref x21, .ref x28, .ref x35, .int 0, .ref x36, .ref x37, .ref x38, .int 0, .int 0, .int 0, .int 0, .int 0, .int 0, .int 0, .int 1])), (x45, .inr (5, [.ref x46, .ref x47, .int 1, .int 0])), (x46, .inl (ty 0, 64, .inl (fun _ => 0))), (x47, .inl (ty 1, 192, .inr (.inl (fun _ => 0))))] H := hP
  have hD : va_D A [(x8, .inr (8, [.ref x1, .ref x9, .ref x10, .ref x12, .ref x14, .int 0, .ref x15, .ref x16, .ref x17, .int 0, .ref x18, .ref x19, .int 0, .int 1, .int 2, .int 0])), (x38, .inl (ty 0, 26, .inl (fun _ => 0))), (x21, .inr (12, [.ref x22, .ref x23, .ref x24, .ref x25, .ref x26, .ref x27, .int 0])), (x28, .inr (12, [.ref x29, .ref x30, .ref x31, .ref x32, .ref x33, .ref x34, .int 0])), (x20, .inr (14, [.ref x1, .ref x8, .ref x21, .ref x28, .ref x35, .int 0, .ref x36, .ref x37, .ref x38, .int 0, .int 0, .int 0, .int 0, .int 0, .int 0, .int 0, .int 1])), (x45, .inr (5, [.ref x46, .ref x47, .int 1, .int 0])), (x46, .inl (ty 0, 64, .inl (fun _ => 0))), (x47, .inl (ty 1, 192, .inr (.inl (fun _ => 0))))] := hD
  refine W.widen (k := 0) (n := 0) (Nat.le_of_ble_eq_true rfl) (Nat.le_of_ble_eq_true rfl) ?_
  refine lv_if_ne (tgt := 66) hx hb dX9_findAnswers_61 (by decide) (fun _ => ?_) (fun c0 => absurd c0 (by decide))
  refine lv_iinc (v := (-1)) (lv' := [(2, .int (-1)), (0, .ref x20), (1, .ref x45)]) hx hb dX9_findAnswers_66 hl (k := 0) rfl (by decide) (by decide) rfl (fun ls hl => ?_)
  refine lv_goto (tgt := 10) hx hb dX9_findAnswers_69 (by decide) ?_
  refine lv_iload_n hx hb dX9_findAnswers_10 rfl (lv_at hl 0 rfl) ?_
  refine lv_if_lt (tgt := 72) hx hb dX9_findAnswers_11 (by decide) (fun _ => ?_) (fun c0 => absurd (by decide) c0)
  refine lv_iconst (v := 1) hx hb dX9_findAnswers_72 (by decide) ?_
  have hP9 := hP.sub (ws' := [(x8, .inr (8, [.ref x1, .ref x9, .ref x10, .ref x12, .ref x14, .int 0, .ref x15, .ref x16, .ref x17, .int 0, .ref x18, .ref x19, .int 0, .int 1, .int 2, .int 0])), (x38, .inl (ty 0, 26, .inl (fun _ => 0))), (x21, .inr (12, [.ref x22, .ref x23, .ref x24, .ref x25, .ref x26, .ref x27, .int 0])), (x28, .inr (12, [.ref x29, .ref x30, .ref x31, .ref x32, .ref x33, .ref x34, .int 0])), (x20, .inr (14, [.ref x1, .ref x8, .ref x21, .ref x28, .ref x35, .int 0, .ref x36, .ref x37, .ref x38, .int 0, .int 0, .int 0, .int 0, .int 0, .int 0, .int 0, .int 1])), (x45, .inr (5, [.ref x46, .ref x47, .int 1, .int 0])), (x46, .inl (ty 0, 64, .inl (fun _ => 0))), (x47, .inl (ty 1, 192, .inr (.inl (fun _ => 0))))]) [0, 1, 2, 3, 4, 5, 6, 7] rfl
  have hD9 := hD.sub (ws' := [(x8, .inr (8, [.ref x1, .ref x9, .ref x10, .ref x12, .ref x14, .int 0, .ref x15, .ref x16, .ref x17, .int 0, .ref x18, .ref x19, .int 0, .int 1, .int 2, .int 0])), (x38, .inl (ty 0, 26, .inl (fun _ => 0))), (x21, .inr (12, [.ref x22, .ref x23, .ref x24, .ref x25, .ref x26, .ref x27, .int 0])), (x28, .inr (12, [.ref x29, .ref x30, .ref x31, .ref x32, .ref x33, .ref x34, .int 0])), (x20, .inr (14, [.ref x1, .ref x8, .ref x21, .ref x28, .ref x35, .int 0, .ref x36, .ref x37, .ref x38, .int 0, .int 0, .int 0, .int 0, .int 0, .int 0, .int 0, .int 1])), (x45, .inr (5, [.ref x46, .ref x47, .int 1, .int 0])), (x46, .inl (ty 0, 64, .inl (fun _ => 0))), (x47, .inl (ty 1, 192, .inr (.inl (fun _ => 0))))]) [0, 1, 2, 3, 4, 5, 6, 7] (by decide) rfl
  refine W.widen (k := 0) (n := 0) (Nat.le_of_ble_eq_true rfl) (Nat.le_of_ble_eq_true rfl) ?_
  exact W.zret (v := 1) hx hb hr rfl (fun t ht hW => ⟨⟨1, [(x8, .inr (8, [.ref x1, .ref x9, .ref x10, .ref x12, .ref x14, .int 0, .ref x15, .ref x16, .ref x17, .int 0, .ref x18, .ref x19, .int 0, .int 1, .int 2, .int 0])), (x38, .inl (ty 0, 26, .inl (fun _ => 0))), (x21, .inr (12, [.ref x22, .ref x23, .ref x24, .ref x25, .ref x26, .ref x27, .int 0])), (x28, .inr (12, [.ref x29, .ref x30, .ref x31, .ref x32, .ref x33, .ref x34, .int 0])), (x20, .inr (14, [.ref x1, .ref x8, .ref x21, .ref x28, .ref x35, .int 0, .ref x36, .ref x37, .ref x38, .int 0, .int 0, .int 0, .int 0, .int 0, .int 0, .int 0, .int 1])), (x45, .inr (5, [.ref x46, .ref x47, .int 1, .int 0])), (x46, .inl (ty 0, 64, .inl (fun _ => 0))), (x47, .inl (ty 1, 192, .inr (.inl (fun _ => 0))))], rfl, ⟨rfl, rfl⟩, wq_B.of ht hP9 hD9⟩, hS.F ht⟩) hS.2.2 dX9_findAnswers_73
def vs_k_X10_walk : List Cond := .code yX10_walk cX10_walk 1 (some .int) :: ([.fieldLink RX10 56 "AnswerFold" "answers" "LAnswerFold$Answers;", .fieldLink RX10 21 "AnswerFold" "grounding" "LAnswerFold$Grounding;", .methodLink RX10 251 yX3_refresh, .instanceMethod yX3_refresh, .selects RX3 yX3_refresh yX3_refresh, .initialized RX3, .fieldLink RX10 30 "AnswerFold" "solver" "LAnswerFold$Solver;", .fieldLink RX10 46 "AnswerFold" "assumedIn" "LAnswerFold$AtomSet;", .fieldLink RX10 50 "AnswerFold" "assumedOut" "LAnswerFold$AtomSet;", .methodLink RX10 284 yX9_prepare, .instanceMethod yX9_prepare, .selects RX9 yX9_prepare yX9_prepare, .initialized RX9, .methodLink RX10 288 yX9_findAnswers, .instanceMethod yX9_findAnswers, .selects RX9 yX9_findAnswers yX9_findAnswers] ++ (u_ws RX10 TX10 7 ++ (u_ws RX0 TX0 4 ++ (vs_k_X3_refresh ++ (u_ws RX3 TX3 16 ++ (vs_a_X9_prepare_0 ++ (vs_a_X9_findAnswers_0)))))))
theorem iv_k_X10_walk_X0 : ∀ w ∈ u_ws RX0 TX0 4, w ∈ vs_k_X10_walk := (fun _ h => List.mem_cons_of_mem _ (List.mem_append_right _ (List.mem_append_right _ (List.mem_append_left _ h))))
theorem iv_k_X10_walk_X10 : ∀ w ∈ u_ws RX10 TX10 7, w ∈ vs_k_X10_walk := (fun _ h => List.mem_cons_of_mem _ (List.mem_append_right _ (List.mem_append_left _ h)))
theorem iv_k_X10_walk_X3 : ∀ w ∈ u_ws RX3 TX3 16, w ∈ vs_k_X10_walk := (fun _ h => List.mem_cons_of_mem _ (List.mem_append_right _ (List.mem_append_right _ (List.mem_append_right _ (List.mem_append_right _ (List.mem_append_left _ h))))))
set_option maxRecDepth 20000 in
theorem gv_k_X10_walk_0 : GoodIn vs_k_X10_walk (wsV RX10 251 RX3 yX3_refresh vs_k_X3_refresh) := goodIn_app (goodIn_sub (by decide +kernel) (by decide +kernel)) (goodIn_sub (fun _ h => List.mem_cons_of_mem _ (List.mem_append_right _ (List.mem_append_right _ (List.mem_append_right _ (List.mem_append_left _ h))))) (by decide +kernel))
set_option maxRecDepth 20000 in
theorem gv_k_X10_walk_1 : GoodIn vs_k_X10_walk (wsV RX10 284 RX9 yX9_prepare vs_a_X9_prepare_0) := goodIn_app (goodIn_sub (by decide +kernel) (by decide +kernel)) (goodIn_sub (fun _ h => List.mem_cons_of_mem _ (List.mem_append_right _ (List.mem_append_right _ (List.mem_append_right _ (List.mem_append_right _ (List.mem_append_right _ (List.mem_append_left _ h))))))) (by decide +kernel))
set_option maxRecDepth 20000 in
theorem gv_k_X10_walk_2 : GoodIn vs_k_X10_walk (wsV RX10 288 RX9 yX9_findAnswers vs_a_X9_findAnswers_0) := goodIn_app (goodIn_sub (by decide +kernel) (by decide +kernel)) (goodIn_sub (fun _ h => List.mem_cons_of_mem _ (List.mem_append_right _ (List.mem_append_right _ (List.mem_append_right _ (List.mem_append_right _ (List.mem_append_right _ (List.mem_append_right _ (h)))))))) (by decide +kernel))
set_option maxHeartbeats 4000000 in
set_option maxRecDepth 100000 in
theorem k_X10_walk (l : Launch) (D : va_G) (ty : Nat → ClassId) (td mi sz : Nat) (x0 : Nat) (x1 : Nat) (x8 : Nat) (x20 : Nat) (x39 : Nat) (x41 : Nat) (x43 : Nat) (x45 : Nat) (x2 : Nat) (x3 : Nat) (x4 : Nat) (x5 : Nat) (x6 : Nat) (x7 : Nat) (x9 : Nat) (x10 : Nat) (x12 : Nat) (x14 : Nat) (x15 : Nat) (x16 : Nat) (x17 : Nat) (x18 : Nat) (x19 : Nat) (x11 : Nat) (x13 : Nat) (x21 : Nat) (x28 : Nat) (x35 : Nat) (x36 : Nat) (x37 : Nat) (x38 : Nat) (x22 : Nat) (x23 : Nat) (x24 : Nat) (x25 : Nat) (x26 : Nat) (x27 : Nat) (x29 : Nat) (x30 : Nat) (x31 : Nat) (x32 : Nat) (x33 : Nat) (x34 : Nat) (x42 : Nat) (x44 : Nat) (x46 : Nat) (x47 : Nat) : Met l yX10_walk vs_k_X10_walk { frames := 4, cells := 0, slots := 0, locals := 102 } (va_Pc [.ref x0] (wq_P D ty td mi [(x0, .inr (15, [.ref x1, .ref x8, .ref x20, .ref x39, .ref x41, .ref x43, .ref x45])), (x1, .inr (11, [.ref x2, .int 0, .ref x3, .int 0, .ref x4, .ref x5, .int 1, .ref x6, .ref x7, .int 0])), (x8, .inr (8, [.ref x1, .ref x9, .ref x10, .ref x12, .ref x14, .int 0, .ref x15, .ref x16, .ref x17, .int 0, .ref x18, .ref x19, .int 0, .int 0, .int 0, .int 0])), (x10, .inr (6, [.ref x11])), (x11, .inl (ty 1, 6, .inr (.inl (fun _ => 0)))), (x12, .inr (6, [.ref x13])), (x13, .inl (ty 1, 6, .inr (.inl (fun _ => 0)))), (x17, .inl (ty 0, 20, .inl (fun _ => 0))), (x19, .inl (ty 0, 384, .inl (fun _ => 0))), (x20, .inr (14, [.ref x1, .ref x8, .ref x21, .ref x28, .ref x35, .int 0, .ref x36, .ref x37, .ref x38, .int 0, .int 0, .int 0, .int 0, .int 0, .int 0, .int 0, .int 0])), (x21, .inr (12, [.ref x22, .ref x23, .ref x24, .ref x25, .ref x26, .ref x27, .int 0])), (x28, .inr (12, [.ref x29, .ref x30, .ref x31, .ref x32, .ref x33, .ref x34, .int 0])), (x36, .inl (ty 0, 6, .inl (fun _ => 0))), (x37, .inl (ty 0, 6, .inl (fun _ => 0))), (x38, .inl (ty 0, 26, .inl (fun _ => 0))), (x41, .inr (6, [.ref x42])), (x42, .inl (ty 1, 6, .inr (.inl (fun _ => 0)))), (x43, .inr (6, [.ref x44])), (x44, .inl (ty 1, 6, .inr (.inl (fun _ => 0)))), (x45, .inr (5, [.ref x46, .ref x47, .int 0, .int 0])), (x46, .inl (ty 0, 64, .inl (fun _ => 0))), (x47, .inl (ty 1, 192, .inr (.inl (fun _ => 0))))] sz)) (va_Qi (fun (r : Int32) (u : va_W) => (r = 1 ∧ (u = []))) (wq_B D (va_A [(x0, .inr (15, [.ref x1, .ref x8, .ref x20, .ref x39, .ref x41, .ref x43, .ref x45])), (x1, .inr (11, [.ref x2, .int 0, .ref x3, .int 0, .ref x4, .ref x5, .int 1, .ref x6, .ref x7, .int 0])), (x8, .inr (8, [.ref x1, .ref x9, .ref x10, .ref x12, .ref x14, .int 0, .ref x15, .ref x16, .ref x17, .int 0, .ref x18, .ref x19, .int 0, .int 0, .int 0, .int 0])), (x10, .inr (6, [.ref x11])), (x11, .inl (ty 1, 6, .inr (.inl (fun _ => 0)))), (x12, .inr (6, [.ref x13])), (x13, .inl (ty 1, 6, .inr (.inl (fun _ => 0)))), (x17, .inl (ty 0, 20, .inl (fun _ => 0))), (x19, .inl (ty 0, 384, .inl (fun _ => 0))), (x20, .inr (14, [.ref x1, .ref x8, .ref x21, .ref x28, .ref x35, .int 0, .ref x36, .ref x37, .ref x38, .int 0, .int 0, .int 0, .int 0, .int 0, .int 0, .int 0, .int 0])), (x21, .inr (12, [.ref x22, .ref x23, .ref x24, .ref x25, .ref x26, .ref x27, .int 0])), (x28, .inr (12, [.ref x29, .ref x30, .ref x31, .ref x32, .ref x33, .ref x34, .int 0])), (x36, .inl (ty 0, 6, .inl (fun _ => 0))), (x37, .inl (ty 0, 6, .inl (fun _ => 0))), (x38, .inl (ty 0, 26, .inl (fun _ => 0))), (x41, .inr (6, [.ref x42])), (x42, .inl (ty 1, 6, .inr (.inl (fun _ => 0)))), (x43, .inr (6, [.ref x44])), (x44, .inl (ty 1, 6, .inr (.inl (fun _ => 0)))), (x45, .inr (5, [.ref x46, .ref x47, .int 0, .int 0])), (x46, .inl (ty 0, 64, .inl (fun _ => 0))), (x47, .inl (ty 1, 192, .inr (.inl (fun _ => 0))))] sz)) (va_A [(x0, .inr (15, [.ref x1, .ref x8, .ref x20, .ref x39, .ref x41, .ref x43, .ref x45])), (x1, .inr (11, [.ref x2, .int 0, .ref x3, .int 0, .ref x4, .ref x5, .int 1, .ref x6, .ref x7, .int 0])), (x8, .inr (8, [.ref x1, .ref x9, .ref x10, .ref x12, .ref x14, .int 0, .ref x15, .ref x16, .ref x17, .int 0, .ref x18, .ref x19, .int 0, .int 0, .int 0, .int 0])), (x10, .inr (6, [.ref x11])), (x11, .inl (ty 1, 6, .inr (.inl (fun _ => 0)))), (x12, .inr (6, [.ref x13])), (x13, .inl (ty 1, 6, .inr (.inl (fun _ => 0)))), (x17, .inl (ty 0, 20, .inl (fun _ => 0))), (x19, .inl (ty 0, 384, .inl (fun _ => 0))), (x20, .inr (14, [.ref x1, .ref x8, .ref x21, .ref x28, .ref x35, .int 0, .ref x36, .ref x37, .ref x38, .int 0, .int 0, .int 0, .int 0, .int 0, .int 0, .int 0, .int 0])), (x21, .inr (12, [.ref x22, .ref x23, .ref x24, .ref x25, .ref x26, .ref x27, .int 0])), (x28, .inr (12, [.ref x29, .ref x30, .ref x31, .ref x32, .ref x33, .ref x34, .int 0])), (x36, .inl (ty 0, 6, .inl (fun _ => 0))), (x37, .inl (ty 0, 6, .inl (fun _ => 0))), (x38, .inl (ty 0, 26, .inl (fun _ => 0))), (x41, .inr (6, [.ref x42])), (x42, .inl (ty 1, 6, .inr (.inl (fun _ => 0)))), (x43, .inr (6, [.ref x44])), (x44, .inl (ty 1, 6, .inr (.inl (fun _ => 0)))), (x45, .inr (5, [.ref x46, .ref x47, .int 0, .int 0])), (x46, .inl (ty 0, 64, .inl (fun _ => 0))), (x47, .inl (ty 1, 192, .inr (.inl (fun _ => 0))))] sz)) 0 0 (va_A [(x0, .inr (15, [.ref x1, .ref x8, .ref x20, .ref x39, .ref x41, .ref x43, .ref x45])), (x1, .inr (11, [.ref x2, .int 0, .ref x3, .int 0, .ref x4, .ref x5, .int 1, .ref x6, .ref x7, .int 0])), (x8, .inr (8, [.ref x1, .ref x9, .ref x10, .ref x12, .ref x14, .int 0, .ref x15, .ref x16, .ref x17, .int 0, .ref x18, .ref x19, .int 0, .int 0, .int 0, .int 0])), (x10, .inr (6, [.ref x11])), (x11, .inl (ty 1, 6, .inr (.inl (fun _ => 0)))), (x12, .inr (6, [.ref x13])), (x13, .inl (ty 1, 6, .inr (.inl (fun _ => 0)))), (x17, .inl (ty 0, 20, .inl (fun _ => 0))), (x19, .inl (ty 0, 384, .inl (fun _ => 0))), (x20, .inr (14, [.ref x1, .ref x8, .ref x21, .ref x28, .ref x35, .int 0, .ref x36, .ref x37, .ref x38, .int 0, .int 0, .int 0, .int 0, .int 0, .int 0, .int 0, .int 0])), (x21, .inr (12, [.ref x22, .ref x23, .ref x24, .ref x25, .ref x26, .ref x27, .int 0])), (x28, .inr (12, [.ref x29, .ref x30, .ref x31, .ref x32, .ref x33, .ref x34, .int 0])), (x36, .inl (ty 0, 6, .inl (fun _ => 0))), (x37, .inl (ty 0, 6, .inl (fun _ => 0))), (x38, .inl (ty 0, 26, .inl (fun _ => 0))), (x41, .inr (6, [.ref x42])), (x42, .inl (ty 1, 6, .inr (.inl (fun _ => 0)))), (x43, .inr (6, [.ref x44])), (x44, .inl (ty 1, 6, .inr (.inl (fun _ => 0)))), (x45, .inr (5, [.ref x46, .ref x47, .int 0, .int 0])), (x46, .inl (ty 0, 64, .inl (fun _ => 0))), (x47, .inl (ty 1, 192, .inr (.inl (fun _ => 0))))] sz) := by
  refine Met.ofW (cc := cX10_walk) (maxL := 1) (ret := (some .int)) (by decide) rfl ?_
  intro p e s m args below meth c s₁ B hml hv
  obtain ⟨rfl, hsz, hP, hK, hD0, hE⟩ := hv
  have hx := B.exec
  have hb := B.bytes
  have hr := B.returns
  have hts := atoms_spec (ws := vs_k_X10_walk) B.pre
  have hown : s.vm.findClass RX10 = some m.cls := findClass_of_methodNamed B.named
  have hlocks := B.notSynchronized
  subst hsz
  have hD := hD0.self (sz := s.heap.size)
  generalize hAe : va_A [(x0, .inr (15, [.ref x1, .ref x8, .ref x20, .ref x39, .ref x41, .ref x43, .ref x45])), (x1, .inr (11, [.ref x2, .int 0, .ref x3, .int 0, .ref x4, .ref x5, .int 1, .ref x6, .ref x7, .int 0])), (x8, .inr (8, [.ref x1, .ref x9, .ref x10, .ref x12, .ref x14, .int 0, .ref x15, .ref x16, .ref x17, .int 0, .ref x18, .ref x19, .int 0, .int 0, .int 0, .int 0])), (x10, .inr (6, [.ref x11])), (x11, .inl (ty 1, 6, .inr (.inl (fun _ => 0)))), (x12, .inr (6, [.ref x13])), (x13, .inl (ty 1, 6, .inr (.inl (fun _ => 0)))), (x17, .inl (ty 0, 20, .inl (fun _ => 0))), (x19, .inl (ty 0, 384, .inl (fun _ => 0))), (x20, .inr (14, [.ref x1, .ref x8, .ref x21, .ref x28, .ref x35, .int 0, .ref x36, .ref x37, .ref x38, .int 0, .int 0, .int 0, .int 0, .int 0, .int 0, .int 0, .int 0])), (x21, .inr (12, [.ref x22, .ref x23, .ref x24, .ref x25, .ref x26, .ref x27, .int 0])), (x28, .inr (12, [.ref x29, .ref x30, .ref x31, .ref x32, .ref x33, .ref x34, .int 0])), (x36, .inl (ty 0, 6, .inl (fun _ => 0))), (x37, .inl (ty 0, 6, .inl (fun _ => 0))), (x38, .inl (ty 0, 26, .inl (fun _ => 0))), (x41, .inr (6, [.ref x42])), (x42, .inl (ty 1, 6, .inr (.inl (fun _ => 0)))), (x43, .inr (6, [.ref x44])), (x44, .inl (ty 1, 6, .inr (.inl (fun _ => 0)))), (x45, .inr (5, [.ref x46, .ref x47, .int 0, .int 0])), (x46, .inl (ty 0, 64, .inl (fun _ => 0))), (x47, .inl (ty 1, 192, .inr (.inl (fun _ => 0))))] s.heap.size = A at hD hE ⊢
  have hA : ∀ q : Nat, s.heap.size ≤ q → A q := fun q h => by rw [← hAe]; exact Or.inr h
  have hS : va_S A s.heap s.heap [] := va_S.rf
  have hP : va_P D vwCl [(x0, .inr (15, [.ref x1, .ref x8, .ref x20, .ref x39, .ref x41, .ref x43, .ref x45])), (x1, .inr (11, [.ref x2, .int 0, .ref x3, .int 0, .ref x4, .ref x5, .int 1, .ref x6, .ref x7, .int 0])), (x8, .inr (8, [.ref x1, .ref x9, .ref x10, .ref x12, .ref x14, .int 0, .ref x15, .ref x16, .ref x17, .int 0, .ref x18, .ref x19, .int 0, .int 0, .int 0, .int 0])), (x10, .inr (6, [.ref x11])), (x11, .inl (ty 1, 6, .inr (.inl (fun _ => 0)))), (x12, .inr (6, [.ref x13])), (x13, .inl (ty 1, 6, .inr (.inl (fun _ => 0)))), (x17, .inl (ty 0, 20, .inl (fun _ => 0))), (x19, .inl (ty 0, 384, .inl (fun _ => 0))), (x20, .inr (14, [.ref x1, .ref x8, .ref x21, .ref x28, .ref x35, .int 0, .ref x36, .ref x37, .ref x38, .int 0, .int 0, .int 0, .int 0, .int 0, .int 0, .int 0, .int 0])), (x21, .inr (12, [.ref x22, .ref x23, .ref x24, .ref x25, .ref x26, .ref x27, .int 0])), (x28, .inr (12, [.ref x29, .ref x30, .ref x31, .ref x32, .ref x33, .ref x34, .int 0])), (x36, .inl (ty 0, 6, .inl (fun _ => 0))), (x37, .inl (ty 0, 6, .inl (fun _ => 0))), (x38, .inl (ty 0, 26, .inl (fun _ => 0))), (x41, .inr (6, [.ref x42])), (x42, .inl (ty 1, 6, .inr (.inl (fun _ => 0)))), (x43, .inr (6, [.ref x44])), (x44, .inl (ty 1, 6, .inr (.inl (fun _ => 0)))), (x45, .inr (5, [.ref x46, .ref x47, .int 0, .int 0])), (x46, .inl (ty 0, 64, .inl (fun _ => 0))), (x47, .inl (ty 1, 192, .inr (.inl (fun _ => 0))))] s.heap := hP
  have hl := lv_entry ([.ref x0]) (n := 1) (Nat.le_of_ble_eq_true rfl)
  rw [lg_entry_eq]
  generalize (lg_sl ([.ref x0]) ++ List.replicate (1 - (lg_sl ([.ref x0])).length) Slot.unset).toArray = ls at hl ⊢
  have hl : lv_has ls 1 [(0, .ref x0)] := hl
  refine lv_aload_n hx hb dX10_walk_0 rfl (lv_at hl 0 rfl) ?_
  refine va_get (D := D) (ci := 15) (v := .ref x45) (C := RX10) (T := TX10) (N := 7) hx hb hts iv_k_X10_walk_X10 hown hK hP 0 rfl rfl 6 (by decide) (hts (.fieldLink RX10 56 "AnswerFold" "answers" "LAnswerFold$Answers;") (by decide +kernel)) (fun _ h9 => h9) rfl dX10_walk_1 ?_
  refine va_getN (D := D) (ci := 5) (v := .int 0) (C := RX0) (T := TX0) (N := 4) hx hb hts iv_k_X10_walk_X0 hown hK hP 19 rfl rfl 3 (by decide) (hE.at (.fieldLinkNest "AnswerFold" 235 "AnswerFold$Answers" "isKept" "Z" "AnswerFold") (by decide +kernel)) (fun _ h9 => h9) rfl dX10_walk_4 ?_
  refine lv_if_eq (tgt := 18) hx hb dX10_walk_7 (by decide) (fun _ => ?_) (fun c0 => absurd (by decide) c0)
  refine lv_aload_n hx hb dX10_walk_18 rfl (lv_at hl 0 rfl) ?_
  refine va_get (D := D) (ci := 15) (v := .ref x8) (C := RX10) (T := TX10) (N := 7) hx hb hts iv_k_X10_walk_X10 hown hK hP 0 rfl rfl 1 (by decide) (hts (.fieldLink RX10 21 "AnswerFold" "grounding" "LAnswerFold$Grounding;") (by decide +kernel)) (fun _ h9 => h9) rfl dX10_walk_19 ?_
  refine wq_v (wc := [(x8, .inr (8, [.ref x1, .ref x9, .ref x10, .ref x12, .ref x14, .int 0, .ref x15, .ref x16, .ref x17, .int 0, .ref x18, .ref x19, .int 0, .int 0, .int 0, .int 0])), (x1, .inr (11, [.ref x2, .int 0, .ref x3, .int 0, .ref x4, .ref x5, .int 1, .ref x6, .ref x7, .int 0])), (x10, .inr (6, [.ref x11])), (x11, .inl (ty 1, 6, .inr (.inl (fun _ => 0)))), (x12, .inr (6, [.ref x13])), (x13, .inl (ty 1, 6, .inr (.inl (fun _ => 0)))), (x17, .inl (ty 0, 20, .inl (fun _ => 0))), (x19, .inl (ty 0, 384, .inl (fun _ => 0)))]) (wr := [(x0, .inr (15, [.ref x1, .ref x8, .ref x20, .ref x39, .ref x41, .ref x43, .ref x45])), (x20, .inr (14, [.ref x1, .ref x8, .ref x21, .ref x28, .ref x35, .int 0, .ref x36, .ref x37, .ref x38, .int 0, .int 0, .int 0, .int 0, .int 0, .int 0, .int 0, .int 0])), (x21, .inr (12, [.ref x22, .ref x23, .ref x24, .ref x25, .ref x26, .ref x27, .int 0])), (x28, .inr (12, [.ref x29, .ref x30, .ref x31, .ref x32, .ref x33, .ref x34, .int 0])), (x36, .inl (ty 0, 6, .inl (fun _ => 0))), (x37, .inl (ty 0, 6, .inl (fun _ => 0))), (x38, .inl (ty 0, 26, .inl (fun _ => 0))), (x41, .inr (6, [.ref x42])), (x42, .inl (ty 1, 6, .inr (.inl (fun _ => 0)))), (x43, .inr (6, [.ref x44])), (x44, .inl (ty 1, 6, .inr (.inl (fun _ => 0)))), (x45, .inr (5, [.ref x46, .ref x47, .int 0, .int 0])), (x46, .inl (ty 0, 64, .inl (fun _ => 0))), (x47, .inl (ty 1, 192, .inr (.inl (fun _ => 0))))]) (va_runV (As := []) (rest := []) ⟨hx, hb, hml, hown, hts⟩ (k_X3_refresh l D ty td mi s.heap.size x8 x1 x9 x10 x12 x14 x15 x16 x17 x18 x19 x2 x3 x4 x5 x6 x7 x11 x13) (cwV 0 hts gv_k_X10_walk_0 rfl rfl rfl (by decide +kernel) ⟨(Nat.le_of_ble_eq_true rfl), (Nat.le_of_ble_eq_true rfl)⟩) (wq_preV hP hD hK hE hS hA [2, 1, 3, 4, 5, 6, 7, 8] rfl (by decide) 2 8 rfl rfl) rfl rfl hl.1 rfl (lv_room (Nat.le_of_ble_eq_true rfl)) dX10_walk_22 ⟨(Nat.le_of_ble_eq_true rfl), (Nat.le_of_ble_eq_true rfl)⟩) hS hA hP hD [2, 1, 3, 4, 5, 6, 7, 8] [0, 9, 10, 11, 12, 13, 14, 15, 16, 17, 18, 19, 20, 21] rfl rfl (by decide) (by decide) (fun u H locs hw hP hD hS => ?_)
  obtain rfl := hw
  have hP : va_P D vwCl [(x0, .inr (15, [.ref x1, .ref x8, .ref x20, .ref x39, .ref x41, .ref x43, .ref x45])), (x20, .inr (14, [.ref x1, .ref x8, .ref x21, .ref x28, .ref x35, .int 0, .ref x36, .ref x37, .ref x38, .int 0, .int 0, .int 0, .int 0, .int 0, .int 0, .int 0, .int 0])), (x21, .inr (12, [.ref x22, .ref x23, .ref x24, .ref x25, .ref x26, .ref x27, .int 0])), (x28, .inr (12, [.ref x29, .ref x30, .ref x31, .ref x32, .ref x33, .ref x34, .int 0])), (x36, .inl (ty 0, 6, .inl (fun _ => 0))), (x37, .inl (ty 0, 6, .inl (fun _ => 0))), (x38, .inl (ty 0, 26, .inl (fun _ => 0))), (x41, .inr (6, [.ref x42])), (x42, .inl (ty 1, 6, .inr (.inl (fun _ => 0)))), (x43, .inr (6, [.ref x44])), (x44, .inl (ty 1, 6, .inr (.inl (fun _ => 0)))), (x45, .inr (5, [.ref x46, .ref x47, .int 0, .int 0])), (x46, .inl (ty 0, 64, .inl (fun _ => 0))), (x47, .inl (ty 1, 192, .inr (.inl (fun _ => 0)))), (x17, .inl (ty 0, 20, .inl (fun _ => 0))), (x1, .inr (11, [.ref x2, .int 0, .ref x3, .int 0, .ref x4, .ref x5, .int 1, .ref x6, .ref x7, .int 0])), (x8, .inr (8, [.ref x1, .ref x9, .ref x10, .ref x12, .ref x14, .int 0, .ref x15, .ref x16, .ref x17, .int 0, .ref x18, .ref x19, .int 0, .int 1, .int 2, .int 0])), (x10, .inr (6, [.ref x11])), (x11, .inl (ty 1, 6, .inr (.inl (fun _ => 0)))), (x12, .inr (6, [.ref x13])), (x13, .inl (ty 1, 6, .inr (.inl (fun _ => 0)))), (x19, .inl (ty 0, 384, .inl (fun j => if j < 384 then (-1) else 0)))] H := hP
  have hD : va_D A [(x0, .inr (15, [.ref x1, .ref x8, .ref x20, .ref x39, .ref x41, .ref x43, .ref x45])), (x20, .inr (14, [.ref x1, .ref x8, .ref x21, .ref x28, .ref x35, .int 0, .ref x36, .ref x37, .ref x38, .int 0, .int 0, .int 0, .int 0, .int 0, .int 0, .int 0, .int 0])), (x21, .inr (12, [.ref x22, .ref x23, .ref x24, .ref x25, .ref x26, .ref x27, .int 0])), (x28, .inr (12, [.ref x29, .ref x30, .ref x31, .ref x32, .ref x33, .ref x34, .int 0])), (x36, .inl (ty 0, 6, .inl (fun _ => 0))), (x37, .inl (ty 0, 6, .inl (fun _ => 0))), (x38, .inl (ty 0, 26, .inl (fun _ => 0))), (x41, .inr (6, [.ref x42])), (x42, .inl (ty 1, 6, .inr (.inl (fun _ => 0)))), (x43, .inr (6, [.ref x44])), (x44, .inl (ty 1, 6, .inr (.inl (fun _ => 0)))), (x45, .inr (5, [.ref x46, .ref x47, .int 0, .int 0])), (x46, .inl (ty 0, 64, .inl (fun _ => 0))), (x47, .inl (ty 1, 192, .inr (.inl (fun _ => 0)))), (x17, .inl (ty 0, 20, .inl (fun _ => 0))), (x1, .inr (11, [.ref x2, .int 0, .ref x3, .int 0, .ref x4, .ref x5, .int 1, .ref x6, .ref x7, .int 0])), (x8, .inr (8, [.ref x1, .ref x9, .ref x10, .ref x12, .ref x14, .int 0, .ref x15, .ref x16, .ref x17, .int 0, .ref x18, .ref x19, .int 0, .int 1, .int 2, .int 0])), (x10, .inr (6, [.ref x11])), (x11, .inl (ty 1, 6, .inr (.inl (fun _ => 0)))), (x12, .inr (6, [.ref x13])), (x13, .inl (ty 1, 6, .inr (.inl (fun _ => 0)))), (x19, .inl (ty 0, 384, .inl (fun j => if j < 384 then (-1) else 0)))] := hD
  refine W.widen (k := 0) (n := 0) (Nat.le_of_ble_eq_true rfl) (Nat.le_of_ble_eq_true rfl) ?_
  refine lv_aload_n hx hb dX10_walk_25 rfl (lv_at hl 0 rfl) ?_
  refine va_get (D := D) (ci := 15) (v := .ref x8) (C := RX10) (T := TX10) (N := 7) hx hb hts iv_k_X10_walk_X10 hown hK hP 0 rfl rfl 1 (by decide) (hts (.fieldLink RX10 21 "AnswerFold" "grounding" "LAnswerFold$Grounding;") (by decide +kernel)) (fun _ h9 => h9) rfl dX10_walk_26 ?_
  refine va_getN (D := D) (ci := 8) (v := .int 0) (C := RX3) (T := TX3) (N := 16) hx hb hts iv_k_X10_walk_X3 hown hK hP 16 rfl rfl 12 (by decide) (hE.at (.fieldLinkNest "AnswerFold" 263 "AnswerFold$Grounding" "openCount" "I" "AnswerFold") (by decide +kernel)) (fun _ h9 => h9) rfl dX10_walk_29 ?_
  refine lv_bipush (v := 12) hx hb dX10_walk_32 (by decide) ?_
  refine lv_icmp_gt (tgt := 50) hx hb dX10_walk_34 (by decide) (fun c0 => absurd c0 (by decide)) (fun _ => ?_)
  refine lv_aload_n hx hb dX10_walk_37 rfl (lv_at hl 0 rfl) ?_
  refine va_get (D := D) (ci := 15) (v := .ref x8) (C := RX10) (T := TX10) (N := 7) hx hb hts iv_k_X10_walk_X10 hown hK hP 0 rfl rfl 1 (by decide) (hts (.fieldLink RX10 21 "AnswerFold" "grounding" "LAnswerFold$Grounding;") (by decide +kernel)) (fun _ h9 => h9) rfl dX10_walk_38 ?_
  refine va_getN (D := D) (ci := 8) (v := .int 0) (C := RX3) (T := TX3) (N := 16) hx hb hts iv_k_X10_walk_X3 hown hK hP 16 rfl rfl 9 (by decide) (hE.at (.fieldLinkNest "AnswerFold" 269 "AnswerFold$Grounding" "keptCount" "I" "AnswerFold") (by decide +kernel)) (fun _ h9 => h9) rfl dX10_walk_41 ?_
  refine lv_sipush (v := 300) hx hb dX10_walk_44 (by decide) ?_
  refine lv_icmp_le (tgt := 61) hx hb dX10_walk_47 (by decide) (fun _ => ?_) (fun c0 => absurd (by decide) c0)
  refine lv_aload_n hx hb dX10_walk_61 rfl (lv_at hl 0 rfl) ?_
  refine va_get (D := D) (ci := 15) (v := .ref x20) (C := RX10) (T := TX10) (N := 7) hx hb hts iv_k_X10_walk_X10 hown hK hP 0 rfl rfl 2 (by decide) (hts (.fieldLink RX10 30 "AnswerFold" "solver" "LAnswerFold$Solver;") (by decide +kernel)) (fun _ h9 => h9) rfl dX10_walk_62 ?_
  refine lv_aload_n hx hb dX10_walk_65 rfl (lv_at hl 0 rfl) ?_
  refine va_get (D := D) (ci := 15) (v := .ref x41) (C := RX10) (T := TX10) (N := 7) hx hb hts iv_k_X10_walk_X10 hown hK hP 0 rfl rfl 4 (by decide) (hts (.fieldLink RX10 46 "AnswerFold" "assumedIn" "LAnswerFold$AtomSet;") (by decide +kernel)) (fun _ h9 => h9) rfl dX10_walk_66 ?_
  refine lv_aload_n hx hb dX10_walk_69 rfl (lv_at hl 0 rfl) ?_
  refine va_get (D := D) (ci := 15) (v := .ref x43) (C := RX10) (T := TX10) (N := 7) hx hb hts iv_k_X10_walk_X10 hown hK hP 0 rfl rfl 5 (by decide) (hts (.fieldLink RX10 50 "AnswerFold" "assumedOut" "LAnswerFold$AtomSet;") (by decide +kernel)) (fun _ h9 => h9) rfl dX10_walk_70 ?_
  refine wq_v (wc := [(x20, .inr (14, [.ref x1, .ref x8, .ref x21, .ref x28, .ref x35, .int 0, .ref x36, .ref x37, .ref x38, .int 0, .int 0, .int 0, .int 0, .int 0, .int 0, .int 0, .int 0])), (x21, .inr (12, [.ref x22, .ref x23, .ref x24, .ref x25, .ref x26, .ref x27, .int 0])), (x28, .inr (12, [.ref x29, .ref x30, .ref x31, .ref x32, .ref x33, .ref x34, .int 0])), (x36, .inl (ty 0, 6, .inl (fun _ => 0))), (x37, .inl (ty 0, 6, .inl (fun _ => 0))), (x41, .inr (6, [.ref x42])), (x42, .inl (ty 1, 6, .inr (.inl (fun _ => 0)))), (x43, .inr (6, [.ref x44])), (x44, .inl (ty 1, 6, .inr (.inl (fun _ => 0)))), (x1, .inr (11, [.ref x2, .int 0, .ref x3, .int 0, .ref x4, .ref x5, .int 1, .ref x6, .ref x7, .int 0])), (x8, .inr (8, [.ref x1, .ref x9, .ref x10, .ref x12, .ref x14, .int 0, .ref x15, .ref x16, .ref x17, .int 0, .ref x18, .ref x19, .int 0, .int 1, .int 2, .int 0])), (x10, .inr (6, [.ref x11])), (x11, .inl (ty 1, 6, .inr (.inl (fun _ => 0))))]) (wr := [(x0, .inr (15, [.ref x1, .ref x8, .ref x20, .ref x39, .ref x41, .ref x43, .ref x45])), (x38, .inl (ty 0, 26, .inl (fun _ => 0))), (x45, .inr (5, [.ref x46, .ref x47, .int 0, .int 0])), (x46, .inl (ty 0, 64, .inl (fun _ => 0))), (x47, .inl (ty 1, 192, .inr (.inl (fun _ => 0)))), (x17, .inl (ty 0, 20, .inl (fun _ => 0))), (x12, .inr (6, [.ref x13])), (x13, .inl (ty 1, 6, .inr (.inl (fun _ => 0)))), (x19, .inl (ty 0, 384, .inl (fun j => if j < 384 then (-1) else 0)))]) (va_runV (As := [.ref x41, .ref x43]) (rest := []) ⟨hx, hb, hml, hown, hts⟩ (a_X9_prepare_0 l D ty td mi H.size x20 x1 x8 x21 x28 x35 x36 x37 x38 x22 x23 x24 x25 x26 x27 x29 x30 x31 x32 x33 x34 x41 x42 x43 x44 x2 x3 x4 x5 x6 x7 x9 x10 x12 x14 x15 x16 x17 x18 x19 x11) (cwV 2 hts gv_k_X10_walk_1 rfl rfl rfl (by decide +kernel) ⟨(Nat.le_of_ble_eq_true rfl), (Nat.le_of_ble_eq_true rfl)⟩) (wq_preV hP hD hK hE hS hA [1, 2, 3, 4, 5, 7, 8, 9, 10, 15, 16, 17, 18] rfl (by decide) 1 14 rfl rfl) rfl rfl hl.1 rfl (lv_room (Nat.le_of_ble_eq_true rfl)) dX10_walk_73 ⟨(Nat.le_of_ble_eq_true rfl), (Nat.le_of_ble_eq_true rfl)⟩) hS hA hP hD [1, 2, 3, 4, 5, 7, 8, 9, 10, 15, 16, 17, 18] [0, 6, 11, 12, 13, 14, 19, 20, 21] rfl rfl (by decide) (by decide) (fun u H locs hw hP hD hS => ?_)
  obtain rfl := hw
  have hP : va_P D vwCl [(x0, .inr (15, [.ref x1, .ref x8, .ref x20, .ref x39, .ref x41, .ref x43, .ref x45])), (x38, .inl (ty 0, 26, .inl (fun _ => 0))), (x45, .inr (5, [.ref x46, .ref x47, .int 0, .int 0])), (x46, .inl (ty 0, 64, .inl (fun _ => 0))), (x47, .inl (ty 1, 192, .inr (.inl (fun _ => 0)))), (x17, .inl (ty 0, 20, .inl (fun _ => 0))), (x12, .inr (6, [.ref x13])), (x13, .inl (ty 1, 6, .inr (.inl (fun _ => 0)))), (x19, .inl (ty 0, 384, .inl (fun j => if j < 384 then (-1) else 0))), (x21, .inr (12, [.ref x22, .ref x23, .ref x24, .ref x25, .ref x26, .ref x27, .int 0])), (x28, .inr (12, [.ref x29, .ref x30, .ref x31, .ref x32, .ref x33, .ref x34, .int 0])), (x36, .inl (ty 0, 6, .inl (fun _ => 0))), (x37, .inl (ty 0, 6, .inl (fun _ => 0))), (x8, .inr (8, [.ref x1, .ref x9, .ref x10, .ref x12, .ref x14, .int 0, .ref x15, .ref x16, .ref x17, .int 0, .ref x18, .ref x19, .int 0, .int 1, .int 2, .int 0])), (x10, .inr (6, [.ref x11])), (x11, .inl (ty 1, 6, .inr (.inl (fun _ => 0)))), (x1, .inr (11, [.ref x2, .int 0, .ref x3, .int 0, .ref x4, .ref x5, .int 1, .ref x6, .ref x7, .int 0])), (x41, .inr (6, [.ref x42])), (x42, .inl (ty 1, 6, .inr (.inl (fun _ => 0)))), (x43, .inr (6, [.ref x44])), (x44, .inl (ty 1, 6, .inr (.inl (fun _ => 0)))), (x20, .inr (14, [.ref x1, .ref x8, .ref x21, .ref x28, .ref x35, .int 0, .ref x36, .ref x37, .ref x38, .int 0, .int 0, .int 0, .int 0, .int 0, .int 0, .int 0, .int 1]))] H := hP
  have hD : va_D A [(x0, .inr (15, [.ref x1, .ref x8, .ref x20, .ref x39, .ref x41, .ref x43, .ref x45])), (x38, .inl (ty 0, 26, .inl (fun _ => 0))), (x45, .inr (5, [.ref x46, .ref x47, .int 0, .int 0])), (x46, .inl (ty 0, 64, .inl (fun _ => 0))), (x47, .inl (ty 1, 192, .inr (.inl (fun _ => 0)))), (x17, .inl (ty 0, 20, .inl (fun _ => 0))), (x12, .inr (6, [.ref x13])), (x13, .inl (ty 1, 6, .inr (.inl (fun _ => 0)))), (x19, .inl (ty 0, 384, .inl (fun j => if j < 384 then (-1) else 0))), (x21, .inr (12, [.ref x22, .ref x23, .ref x24, .ref x25, .ref x26, .ref x27, .int 0])), (x28, .inr (12, [.ref x29, .ref x30, .ref x31, .ref x32, .ref x33, .ref x34, .int 0])), (x36, .inl (ty 0, 6, .inl (fun _ => 0))), (x37, .inl (ty 0, 6, .inl (fun _ => 0))), (x8, .inr (8, [.ref x1, .ref x9, .ref x10, .ref x12, .ref x14, .int 0, .ref x15, .ref x16, .ref x17, .int 0, .ref x18, .ref x19, .int 0, .int 1, .int 2, .int 0])), (x10, .inr (6, [.ref x11])), (x11, .inl (ty 1, 6, .inr (.inl (fun _ => 0)))), (x1, .inr (11, [.ref x2, .int 0, .ref x3, .int 0, .ref x4, .ref x5, .int 1, .ref x6, .ref x7, .int 0])), (x41, .inr (6, [.ref x42])), (x42, .inl (ty 1, 6, .inr (.inl (fun _ => 0)))), (x43, .inr (6, [.ref x44])), (x44, .inl (ty 1, 6, .inr (.inl (fun _ => 0)))), (x20, .inr (14, [.ref x1, .ref x8, .ref x21, .ref x28, .ref x35, .int 0, .ref x36, .ref x37, .ref x38, .int 0, .int 0, .int 0, .int 0, .int 0, .int 0, .int 0, .int 1]))] := hD
  refine W.widen (k := 0) (n := 0) (Nat.le_of_ble_eq_true rfl) (Nat.le_of_ble_eq_true rfl) ?_
  refine lv_aload_n hx hb dX10_walk_76 rfl (lv_at hl 0 rfl) ?_
  refine va_get (D := D) (ci := 15) (v := .ref x20) (C := RX10) (T := TX10) (N := 7) hx hb hts iv_k_X10_walk_X10 hown hK hP 0 rfl rfl 2 (by decide) (hts (.fieldLink RX10 30 "AnswerFold" "solver" "LAnswerFold$Solver;") (by decide +kernel)) (fun _ h9 => h9) rfl dX10_walk_77 ?_
  refine lv_aload_n hx hb dX10_walk_80 rfl (lv_at hl 0 rfl) ?_
  refine va_get (D := D) (ci := 15) (v := .ref x45) (C := RX10) (T := TX10) (N := 7) hx hb hts iv_k_X10_walk_X10 hown hK hP 0 rfl rfl 6 (by decide) (hts (.fieldLink RX10 56 "AnswerFold" "answers" "LAnswerFold$Answers;") (by decide +kernel)) (fun _ h9 => h9) rfl dX10_walk_81 ?_
  refine wq_i (wc := [(x38, .inl (ty 0, 26, .inl (fun _ => 0))), (x45, .inr (5, [.ref x46, .ref x47, .int 0, .int 0])), (x46, .inl (ty 0, 64, .inl (fun _ => 0))), (x47, .inl (ty 1, 192, .inr (.inl (fun _ => 0)))), (x21, .inr (12, [.ref x22, .ref x23, .ref x24, .ref x25, .ref x26, .ref x27, .int 0])), (x28, .inr (12, [.ref x29, .ref x30, .ref x31, .ref x32, .ref x33, .ref x34, .int 0])), (x8, .inr (8, [.ref x1, .ref x9, .ref x10, .ref x12, .ref x14, .int 0, .ref x15, .ref x16, .ref x17, .int 0, .ref x18, .ref x19, .int 0, .int 1, .int 2, .int 0])), (x20, .inr (14, [.ref x1, .ref x8, .ref x21, .ref x28, .ref x35, .int 0, .ref x36, .ref x37, .ref x38, .int 0, .int 0, .int 0, .int 0, .int 0, .int 0, .int 0, .int 1]))]) (wr := [(x0, .inr (15, [.ref x1, .ref x8, .ref x20, .ref x39, .ref x41, .ref x43, .ref x45])), (x17, .inl (ty 0, 20, .inl (fun _ => 0))), (x12, .inr (6, [.ref x13])), (x13, .inl (ty 1, 6, .inr (.inl (fun _ => 0)))), (x19, .inl (ty 0, 384, .inl (fun j => if j < 384 then (-1) else 0))), (x36, .inl (ty 0, 6, .inl (fun _ => 0))), (x37, .inl (ty 0, 6, .inl (fun _ => 0))), (x10, .inr (6, [.ref x11])), (x11, .inl (ty 1, 6, .inr (.inl (fun _ => 0)))), (x1, .inr (11, [.ref x2, .int 0, .ref x3, .int 0, .ref x4, .ref x5, .int 1, .ref x6, .ref x7, .int 0])), (x41, .inr (6, [.ref x42])), (x42, .inl (ty 1, 6, .inr (.inl (fun _ => 0)))), (x43, .inr (6, [.ref x44])), (x44, .inl (ty 1, 6, .inr (.inl (fun _ => 0))))]) (va_runV (As := [.ref x45]) (rest := []) ⟨hx, hb, hml, hown, hts⟩ (a_X9_findAnswers_0 l D ty td mi H.size x38 x45 x46 x47 x21 x22 x23 x24 x25 x26 x27 x28 x29 x30 x31 x32 x33 x34 x8 x1 x9 x10 x12 x14 x15 x16 x17 x18 x19 x20 x35 x36 x37) (cwV 1 hts gv_k_X10_walk_2 rfl rfl rfl (by decide +kernel) ⟨(Nat.le_of_ble_eq_true rfl), (Nat.le_of_ble_eq_true rfl)⟩) (wq_preV hP hD hK hE hS hA [1, 2, 3, 4, 9, 10, 13, 21] rfl (by decide) 21 14 rfl rfl) rfl rfl hl.1 rfl (lv_room (Nat.le_of_ble_eq_true rfl)) dX10_walk_84 ⟨(Nat.le_of_ble_eq_true rfl), (Nat.le_of_ble_eq_true rfl)⟩) hS hA hP hD [1, 2, 3, 4, 9, 10, 13, 21] [0, 5, 6, 7, 8, 11, 12, 14, 15, 16, 17, 18, 19, 20] rfl rfl (by decide) (by decide) (fun r u H locs hw hP hD hS => ?_)
  obtain ⟨rfl, rfl⟩ := hw
  have hP : va_P D vwCl [(x0, .inr (15, [.ref x1, .ref x8, .ref x20, .ref x39, .ref x41, .ref x43, .ref x45])), (x17, .inl (ty 0, 20, .inl (fun _ => 0))), (x12, .inr (6, [.ref x13])), (x13, .inl (ty 1, 6, .inr (.inl (fun _ => 0)))), (x19, .inl (ty 0, 384, .inl (fun j => if j < 384 then (-1) else 0))), (x36, .inl (ty 0, 6, .inl (fun _ => 0))), (x37, .inl (ty 0, 6, .inl (fun _ => 0))), (x10, .inr (6, [.ref x11])), (x11, .inl (ty 1, 6, .inr (.inl (fun _ => 0)))), (x1, .inr (11, [.ref x2, .int 0, .ref x3, .int 0, .ref x4, .ref x5, .int 1, .ref x6, .ref x7, .int 0])), (x41, .inr (6, [.ref x42])), (x42, .inl (ty 1, 6, .inr (.inl (fun _ => 0)))), (x43, .inr (6, [.ref x44])), (x44, .inl (ty 1, 6, .inr (.inl (fun _ => 0)))), (x8, .inr (8, [.ref x1, .ref x9, .ref x10, .ref x12, .ref x14, .int 0, .ref x15, .ref x16, .ref x17, .int 0, .ref x18, .ref x19, .int 0, .int 1, .int 2, .int 0])), (x38, .inl (ty 0, 26, .inl (fun _ => 0))), (x21, .inr (12, [.ref x22, .ref x23, .ref x24, .ref x25, .ref x26, .ref x27, .int 0])), (x28, .inr (12, [.ref x29, .ref x30, .ref x31, .ref x32, .ref x33, .ref x34, .int 0])), (x20, .inr (14, [.ref x1, .ref x8, .ref x21, .ref x28, .ref x35, .int 0, .ref x36, .ref x37, .ref x38, .int 0, .int 0, .int 0, .int 0, .int 0, .int 0, .int 0, .int 1])), (x45, .inr (5, [.ref x46, .ref x47, .int 1, .int 0])), (x46, .inl (ty 0, 64, .inl (fun _ => 0))), (x47, .inl (ty 1, 192, .inr (.inl (fun _ => 0))))] H := hP
  have hD : va_D A [(x0, .inr (15, [.ref x1, .ref x8, .ref x20, .ref x39, .ref x41, .ref x43, .ref x45])), (x17, .inl (ty 0, 20, .inl (fun _ => 0))), (x12, .inr (6, [.ref x13])), (x13, .inl (ty 1, 6, .inr (.inl (fun _ => 0)))), (x19, .inl (ty 0, 384, .inl (fun j => if j < 384 then (-1) else 0))), (x36, .inl (ty 0, 6, .inl (fun _ => 0))), (x37, .inl (ty 0, 6, .inl (fun _ => 0))), (x10, .inr (6, [.ref x11])), (x11, .inl (ty 1, 6, .inr (.inl (fun _ => 0)))), (x1, .inr (11, [.ref x2, .int 0, .ref x3, .int 0, .ref x4, .ref x5, .int 1, .ref x6, .ref x7, .int 0])), (x41, .inr (6, [.ref x42])), (x42, .inl (ty 1, 6, .inr (.inl (fun _ => 0)))), (x43, .inr (6, [.ref x44])), (x44, .inl (ty 1, 6, .inr (.inl (fun _ => 0)))), (x8, .inr (8, [.ref x1, .ref x9, .ref x10, .ref x12, .ref x14, .int 0, .ref x15, .ref x16, .ref x17, .int 0, .ref x18, .ref x19, .int 0, .int 1, .int 2, .int 0])), (x38, .inl (ty 0, 26, .inl (fun _ => 0))), (x21, .inr (12, [.ref x22, .ref x23, .ref x24, .ref x25, .ref x26, .ref x27, .int 0])), (x28, .inr (12, [.ref x29, .ref x30, .ref x31, .ref x32, .ref x33, .ref x34, .int 0])), (x20, .inr (14, [.ref x1, .ref x8, .ref x21, .ref x28, .ref x35, .int 0, .ref x36, .ref x37, .ref x38, .int 0, .int 0, .int 0, .int 0, .int 0, .int 0, .int 0, .int 1])), (x45, .inr (5, [.ref x46, .ref x47, .int 1, .int 0])), (x46, .inl (ty 0, 64, .inl (fun _ => 0))), (x47, .inl (ty 1, 192, .inr (.inl (fun _ => 0))))] := hD
  refine W.widen (k := 0) (n := 0) (Nat.le_of_ble_eq_true rfl) (Nat.le_of_ble_eq_true rfl) ?_
  refine lv_if_ne (tgt := 101) hx hb dX10_walk_87 (by decide) (fun _ => ?_) (fun c0 => absurd c0 (by decide))
  refine lv_aload_n hx hb dX10_walk_101 rfl (lv_at hl 0 rfl) ?_
  refine va_get (D := D) (ci := 15) (v := .ref x45) (C := RX10) (T := TX10) (N := 7) hx hb hts iv_k_X10_walk_X10 hown hK hP 0 rfl rfl 6 (by decide) (hts (.fieldLink RX10 56 "AnswerFold" "answers" "LAnswerFold$Answers;") (by decide +kernel)) (fun _ h9 => h9) rfl dX10_walk_102 ?_
  refine lv_iconst (v := 1) hx hb dX10_walk_105 (by decide) ?_
  refine va_putN (D := D) (ci := 5) (v := .int 1) (ty := tyX0 3) (C := RX0) (T := TX0) (N := 4) hx hb hts iv_k_X10_walk_X0 tyX0 tyX0_ok nmX0 hown hK hP hD hS 19 rfl rfl 3 (by decide) (hE.at (.fieldLinkNest "AnswerFold" 235 "AnswerFold$Answers" "isKept" "Z" "AnswerFold") (by decide +kernel)) (fun _ h9 => h9) rfl (by decide +kernel) rfl rfl (Nat.le_of_ble_eq_true rfl) dX10_walk_106 (fun H locs hP hD hS => ?_)
  have hP : va_P D vwCl [(x0, .inr (15, [.ref x1, .ref x8, .ref x20, .ref x39, .ref x41, .ref x43, .ref x45])), (x17, .inl (ty 0, 20, .inl (fun _ => 0))), (x12, .inr (6, [.ref x13])), (x13, .inl (ty 1, 6, .inr (.inl (fun _ => 0)))), (x19, .inl (ty 0, 384, .inl (fun j => if j < 384 then (-1) else 0))), (x36, .inl (ty 0, 6, .inl (fun _ => 0))), (x37, .inl (ty 0, 6, .inl (fun _ => 0))), (x10, .inr (6, [.ref x11])), (x11, .inl (ty 1, 6, .inr (.inl (fun _ => 0)))), (x1, .inr (11, [.ref x2, .int 0, .ref x3, .int 0, .ref x4, .ref x5, .int 1, .ref x6, .ref x7, .int 0])), (x41, .inr (6, [.ref x42])), (x42, .inl (ty 1, 6, .inr (.inl (fun _ => 0)))), (x43, .inr (6, [.ref x44])), (x44, .inl (ty 1, 6, .inr (.inl (fun _ => 0)))), (x8, .inr (8, [.ref x1, .ref x9, .ref x10, .ref x12, .ref x14, .int 0, .ref x15, .ref x16, .ref x17, .int 0, .ref x18, .ref x19, .int 0, .int 1, .int 2, .int 0])), (x38, .inl (ty 0, 26, .inl (fun _ => 0))), (x21, .inr (12, [.ref x22, .ref x23, .ref x24, .ref x25, .ref x26, .ref x27, .int 0])), (x28, .inr (12, [.ref x29, .ref x30, .ref x31, .ref x32, .ref x33, .ref x34, .int 0])), (x20, .inr (14, [.ref x1, .ref x8, .ref x21, .ref x28, .ref x35, .int 0, .ref x36, .ref x37, .ref x38, .int 0, .int 0, .int 0, .int 0, .int 0, .int 0, .int 0, .int 1])), (x45, .inr (5, [.ref x46, .ref x47, .int 1, .int 1])), (x46, .inl (ty 0, 64, .inl (fun _ => 0))), (x47, .inl (ty 1, 192, .inr (.inl (fun _ => 0))))] H := hP
  have hD : va_D A [(x0, .inr (15, [.ref x1, .ref x8, .ref x20, .ref x39, .ref x41, .ref x43, .ref x45])), (x17, .inl (ty 0, 20, .inl (fun _ => 0))), (x12, .inr (6, [.ref x13])), (x13, .inl (ty 1, 6, .inr (.inl (fun _ => 0)))), (x19, .inl (ty 0, 384, .inl (fun j => if j < 384 then (-1) else 0))), (x36, .inl (ty 0, 6, .inl (fun _ => 0))), (x37, .inl (ty 0, 6, .inl (fun _ => 0))), (x10, .inr (6, [.ref x11])), (x11, .inl (ty 1, 6, .inr (.inl (fun _ => 0)))), (x1, .inr (11, [.ref x2, .int 0, .ref x3, .int 0, .ref x4, .ref x5, .int 1, .ref x6, .ref x7, .int 0])), (x41, .inr (6, [.ref x42])), (x42, .inl (ty 1, 6, .inr (.inl (fun _ => 0)))), (x43, .inr (6, [.ref x44])), (x44, .inl (ty 1, 6, .inr (.inl (fun _ => 0)))), (x8, .inr (8, [.ref x1, .ref x9, .ref x10, .ref x12, .ref x14, .int 0, .ref x15, .ref x16, .ref x17, .int 0, .ref x18, .ref x19, .int 0, .int 1, .int 2, .int 0])), (x38, .inl (ty 0, 26, .inl (fun _ => 0))), (x21, .inr (12, [.ref x22, .ref x23, .ref x24, .ref x25, .ref x26, .ref x27, .int 0])), (x28, .inr (12, [.ref x29, .ref x30, .ref x31, .ref x32, .ref x33, .ref x34, .int 0])), (x20, .inr (14, [.ref x1, .ref x8, .ref x21, .ref x28, .ref x35, .int 0, .ref x36, .ref x37, .ref x38, .int 0, .int 0, .int 0, .int 0, .int 0, .int 0, .int 0, .int 1])), (x45, .inr (5, [.ref x46, .ref x47, .int 1, .int 1])), (x46, .inl (ty 0, 64, .inl (fun _ => 0))), (x47, .inl (ty 1, 192, .inr (.inl (fun _ => 0))))] := hD
  refine lv_aload_n hx hb dX10_walk_109 rfl (lv_at hl 0 rfl) ?_
  refine va_get (D := D) (ci := 15) (v := .ref x45) (C := RX10) (T := TX10) (N := 7) hx hb hts iv_k_X10_walk_X10 hown hK hP 0 rfl rfl 6 (by decide) (hts (.fieldLink RX10 56 "AnswerFold" "answers" "LAnswerFold$Answers;") (by decide +kernel)) (fun _ h9 => h9) rfl dX10_walk_110 ?_
  refine va_getN (D := D) (ci := 5) (v := .int 1) (C := RX0) (T := TX0) (N := 4) hx hb hts iv_k_X10_walk_X0 hown hK hP 19 rfl rfl 2 (by decide) (hE.at (.fieldLinkNest "AnswerFold" 280 "AnswerFold$Answers" "count" "I" "AnswerFold") (by decide +kernel)) (fun _ h9 => h9) rfl dX10_walk_113 ?_
  have hP9 := hP.sub (ws' := []) [] rfl
  have hD9 := hD.sub (ws' := []) [] (by decide) rfl
  refine W.widen (k := 0) (n := 0) (Nat.le_of_ble_eq_true rfl) (Nat.le_of_ble_eq_true rfl) ?_
  exact W.iret (v := 1) hx hb hr (fun t ht hW => ⟨⟨1, [], rfl, ⟨rfl, rfl⟩, wq_B.of ht hP9 hD9⟩, hS.F ht⟩) hS.2.2 dX10_walk_116
def vs_a_X9_hasSmallerByAll_0 : List Cond := .code yX9_hasSmallerByAll cX9_hasSmallerByAll 3 (some .boolean) :: ([.methodLink RX9 266 yX9_listActive, .instanceMethod yX9_listActive, .selects RX9 yX9_listActive yX9_listActive, .initialized RX9] ++ (vs_a_X9_listActive_0))
set_option maxRecDepth 20000 in
theorem gv_a_X9_hasSmallerByAll_0_0 : GoodIn vs_a_X9_hasSmallerByAll_0 (wsV RX9 266 RX9 yX9_listActive vs_a_X9_listActive_0) := goodIn_app (goodIn_sub (by decide +kernel) (by decide +kernel)) (goodIn_sub (fun _ h => List.mem_cons_of_mem _ (List.mem_append_right _ (h))) (by decide +kernel))
set_option maxHeartbeats 4000000 in
set_option maxRecDepth 100000 in
theorem a_X9_hasSmallerByAll_0 (l : Launch) (D : va_G) (ty : Nat → ClassId) (td mi sz : Nat) (x21 : Nat) (x22 : Nat) (x23 : Nat) (x24 : Nat) (x25 : Nat) (x26 : Nat) (x27 : Nat) (x20 : Nat) (x1 : Nat) (x8 : Nat) (x28 : Nat) (x35 : Nat) (x36 : Nat) (x37 : Nat) (x38 : Nat) : Met l yX9_hasSmallerByAll vs_a_X9_hasSmallerByAll_0 { frames := 2, cells := 0, slots := 0, locals := 47 } (va_Pc [.ref x20, .int 0] (wq_P D ty td mi [(x21, .inr (12, [.ref x22, .ref x23, .ref x24, .ref x25, .ref x26, .ref x27, .int 0])), (x20, .inr (14, [.ref x1, .ref x8, .ref x21, .ref x28, .ref x35, .int 0, .ref x36, .ref x37, .ref x38, .int 0, .int 0, .int 0, .int 0, .int 0, .int 0, .int 0, .int 1]))] sz)) (va_Qi (fun (r : Int32) (u : va_W) => (r = 0 ∧ (u = [(x21, .inr (12, [.ref x22, .ref x23, .ref x24, .ref x25, .ref x26, .ref x27, .int 0])), (x20, .inr (14, [.ref x1, .ref x8, .ref x21, .ref x28, .ref x35, .int 0, .ref x36, .ref x37, .ref x38, .int 0, .int 0, .int 0, .int 0, .int 0, .int 0, .int 0, .int 1]))]))) (wq_B D (va_A [(x21, .inr (12, [.ref x22, .ref x23, .ref x24, .ref x25, .ref x26, .ref x27, .int 0])), (x20, .inr (14, [.ref x1, .ref x8, .ref x21, .ref x28, .ref x35, .int 0, .ref x36, .ref x37, .ref x38, .int 0, .int 0, .int 0, .int 0, .int 0, .int 0, .int 0, .int 1]))] sz)) (va_A [(x21, .inr (12, [.ref x22, .ref x23, .ref x24, .ref x25, .ref x26, .ref x27, .int 0])), (x20, .inr (14, [.ref x1, .ref x8, .ref x21, .ref x28, .ref x35, .int 0, .ref x36, .ref x37, .ref x38, .int 0, .int 0, .int 0, .int 0, .int 0, .int 0, .int 0, .int 1]))] sz)) 0 0 (va_A [(x21, .inr (12, [.ref x22, .ref x23, .ref x24, .ref x25, .ref x26, .ref x27, .int 0])), (x20, .inr (14, [.ref x1, .ref x8, .ref x21, .ref x28, .ref x35, .int 0, .ref x36, .ref x37, .ref x38, .int 0, .int 0, .int 0, .int 0, .int 0, .int 0, .int 0, .int 1]))] sz) := by
  refine Met.ofW (cc := cX9_hasSmallerByAll) (maxL := 3) (ret := (some .boolean)) (by decide) rfl ?_
  intro p e s m args below meth c s₁ B hml hv
  obtain ⟨rfl, hsz, hP, hK, hD0, hE⟩ := hv
  have hx := B.exec
  have hb := B.bytes
  have hr := B.returns
  have hts := atoms_spec (ws := vs_a_X9_hasSmallerByAll_0) B.pre
  have hown : s.vm.findClass RX9 = some m.cls := findClass_of_methodNamed B.named
  have hlocks := B.notSynchronized
  subst hsz
  have hD := hD0.self (sz := s.heap.size)
  generalize hAe : va_A [(x21, .inr (12, [.ref x22, .ref x23, .ref x24, .ref x25, .ref x26, .ref x27, .int 0])), (x20, .inr (14, [.ref x1, .ref x8, .ref x21, .ref x28, .ref x35, .int 0, .ref x36, .ref x37, .ref x38, .int 0, .int 0, .int 0, .int 0, .int 0, .int 0, .int 0, .int 1]))] s.heap.size = A at hD hE ⊢
  have hA : ∀ q : Nat, s.heap.size ≤ q → A q := fun q h => by rw [← hAe]; exact Or.inr h
  have hS : va_S A s.heap s.heap [] := va_S.rf
  have hP : va_P D vwCl [(x21, .inr (12, [.ref x22, .ref x23, .ref x24, .ref x25, .ref x26, .ref x27, .int 0])), (x20, .inr (14, [.ref x1, .ref x8, .ref x21, .ref x28, .ref x35, .int 0, .ref x36, .ref x37, .ref x38, .int 0, .int 0, .int 0, .int 0, .int 0, .int 0, .int 0, .int 1]))] s.heap := hP
  have hl := lv_entry ([.ref x20, .int 0]) (n := 3) (Nat.le_of_ble_eq_true rfl)
  rw [lg_entry_eq]
  generalize (lg_sl ([.ref x20, .int 0]) ++ List.replicate (3 - (lg_sl ([.ref x20, .int 0])).length) Slot.unset).toArray = ls at hl ⊢
  have hl : lv_has ls 3 [(0, .ref x20), (1, .int 0)] := hl
  refine lv_aload_n hx hb dX9_hasSmallerByAll_0 rfl (lv_at hl 0 rfl) ?_
  refine lv_iload_n hx hb dX9_hasSmallerByAll_1 rfl (lv_at hl 1 rfl) ?_
  refine wq_v (wc := [(x21, .inr (12, [.ref x22, .ref x23, .ref x24, .ref x25, .ref x26, .ref x27, .int 0])), (x20, .inr (14, [.ref x1, .ref x8, .ref x21, .ref x28, .ref x35, .int 0, .ref x36, .ref x37, .ref x38, .int 0, .int 0, .int 0, .int 0, .int 0, .int 0, .int 0, .int 1]))]) (wr := []) (va_runV (As := [.int 0]) (rest := []) ⟨hx, hb, hml, hown, hts⟩ (a_X9_listActive_0 l D ty td mi s.heap.size x21 x22 x23 x24 x25 x26 x27 x20 x1 x8 x28 x35 x36 x37 x38) (cwV 1 hts gv_a_X9_hasSmallerByAll_0_0 rfl rfl rfl (by decide +kernel) ⟨(Nat.le_of_ble_eq_true rfl), (Nat.le_of_ble_eq_true rfl)⟩) (wq_preV hP hD hK hE hS hA [0, 1] rfl (by decide) 1 14 rfl rfl) rfl rfl hl.1 rfl (lv_room (Nat.le_of_ble_eq_true rfl)) dX9_hasSmallerByAll_2 ⟨(Nat.le_of_ble_eq_true rfl), (Nat.le_of_ble_eq_true rfl)⟩) hS hA hP hD [0, 1] [] rfl rfl (by decide) (by decide) (fun u H locs hw hP hD hS => ?_)
  obtain rfl := hw
  have hP : va_P D vwCl [(x21, .inr (12, [.ref x22, .ref x23, .ref x24, .ref x25, .ref x26, .ref x27, .int 0])), (x20, .inr (14, [.ref x1, .ref x8, .ref x21, .ref x28, .ref x35, .int 0, .ref x36, .ref x37, .ref x38, .int 0, .int 0, .int 0, .int 0, .int 0, .int 0, .int 0, .int 1]))] H := hP
  have hD : va_D A [(x21, .inr (12, [.ref x22, .ref x23, .ref x24, .ref x25, .ref x26, .ref x27, .int 0])), (x20, .inr (14, [.ref x1, .ref x8, .ref x21, .ref x28, .ref x35, .int 0, .ref x36, .ref x37, .ref x38, .int 0, .int 0, .int 0, .int 0, .int 0, .int 0, .int 0, .int 1]))] := hD
  refine W.widen (k := 0) (n := 0) (Nat.le_of_ble_eq_true rfl) (Nat.le_of_ble_eq_true rfl) ?_
  refine lv_iconst (v := 0) hx hb dX9_hasSmallerByAll_5 (by decide) ?_
  refine lv_istore_n (lv' := [(2, .int 0), (0, .ref x20), (1, .int 0)]) hx hb dX9_hasSmallerByAll_6 rfl hl (by decide) rfl (fun ls hl => ?_)
  refine lv_iload_n hx hb dX9_hasSmallerByAll_7 rfl (lv_at hl 0 rfl) ?_
  refine lv_iload_n hx hb dX9_hasSmallerByAll_8 rfl (lv_at hl 2 rfl) ?_
  refine lv_icmp_ge (tgt := 37) hx hb dX9_hasSmallerByAll_9 (by decide) (fun _ => ?_) (fun c0 => absurd (by decide) c0)
  refine lv_iconst (v := 0) hx hb dX9_hasSmallerByAll_37 (by decide) ?_
  have hP9 := hP.sub (ws' := [(x21, .inr (12, [.ref x22, .ref x23, .ref x24, .ref x25, .ref x26, .ref x27, .int 0])), (x20, .inr (14, [.ref x1, .ref x8, .ref x21, .ref x28, .ref x35, .int 0, .ref x36, .ref x37, .ref x38, .int 0, .int 0, .int 0, .int 0, .int 0, .int 0, .int 0, .int 1]))]) [0, 1] rfl
  have hD9 := hD.sub (ws' := [(x21, .inr (12, [.ref x22, .ref x23, .ref x24, .ref x25, .ref x26, .ref x27, .int 0])), (x20, .inr (14, [.ref x1, .ref x8, .ref x21, .ref x28, .ref x35, .int 0, .ref x36, .ref x37, .ref x38, .int 0, .int 0, .int 0, .int 0, .int 0, .int 0, .int 0, .int 1]))]) [0, 1] (by decide) rfl
  refine W.widen (k := 0) (n := 0) (Nat.le_of_ble_eq_true rfl) (Nat.le_of_ble_eq_true rfl) ?_
  exact W.zret (v := 0) hx hb hr rfl (fun t ht hW => ⟨⟨0, [(x21, .inr (12, [.ref x22, .ref x23, .ref x24, .ref x25, .ref x26, .ref x27, .int 0])), (x20, .inr (14, [.ref x1, .ref x8, .ref x21, .ref x28, .ref x35, .int 0, .ref x36, .ref x37, .ref x38, .int 0, .int 0, .int 0, .int 0, .int 0, .int 0, .int 0, .int 1]))], rfl, ⟨rfl, rfl⟩, wq_B.of ht hP9 hD9⟩, hS.F ht⟩) hS.2.2 dX9_hasSmallerByAll_38
def vs_a_X9_countByAll_0 : List Cond := .code yX9_countByAll cX9_countByAll 3 (some .int) :: ([.methodLink RX9 218 yX9_fullSet, .instanceMethod yX9_fullSet, .selects RX9 yX9_fullSet yX9_fullSet, .initialized RX9, .methodLink RX9 221 yX9_fits, .instanceMethod yX9_fits, .selects RX9 yX9_fits yX9_fits, .methodLink RX9 224 yX9_isModel, .instanceMethod yX9_isModel, .selects RX9 yX9_isModel yX9_isModel, .methodLink RX9 238 yX9_hasSmallerByAll, .instanceMethod yX9_hasSmallerByAll, .selects RX9 yX9_hasSmallerByAll yX9_hasSmallerByAll] ++ (vs_a_X9_fullSet_0 ++ (vs_a_X9_fits_0 ++ (vs_a_X9_isModel_0 ++ (vs_a_X9_hasSmallerByAll_0)))))
set_option maxRecDepth 20000 in
theorem gv_a_X9_countByAll_0_0 : GoodIn vs_a_X9_countByAll_0 (wsV RX9 218 RX9 yX9_fullSet vs_a_X9_fullSet_0) := goodIn_app (goodIn_sub (by decide +kernel) (by decide +kernel)) (goodIn_sub (fun _ h => List.mem_cons_of_mem _ (List.mem_append_right _ (List.mem_append_left _ h))) (by decide +kernel))
set_option maxRecDepth 20000 in
theorem gv_a_X9_countByAll_0_1 : GoodIn vs_a_X9_countByAll_0 (wsV RX9 221 RX9 yX9_fits vs_a_X9_fits_0) := goodIn_app (goodIn_sub (by decide +kernel) (by decide +kernel)) (goodIn_sub (fun _ h => List.mem_cons_of_mem _ (List.mem_append_right _ (List.mem_append_right _ (List.mem_append_left _ h)))) (by decide +kernel))
set_option maxRecDepth 20000 in
theorem gv_a_X9_countByAll_0_2 : GoodIn vs_a_X9_countByAll_0 (wsV RX9 224 RX9 yX9_isModel vs_a_X9_isModel_0) := goodIn_app (goodIn_sub (by decide +kernel) (by decide +kernel)) (goodIn_sub (fun _ h => List.mem_cons_of_mem _ (List.mem_append_right _ (List.mem_append_right _ (List.mem_append_right _ (List.mem_append_left _ h))))) (by decide +kernel))
set_option maxRecDepth 20000 in
theorem gv_a_X9_countByAll_0_3 : GoodIn vs_a_X9_countByAll_0 (wsV RX9 238 RX9 yX9_hasSmallerByAll vs_a_X9_hasSmallerByAll_0) := goodIn_app (goodIn_sub (by decide +kernel) (by decide +kernel)) (goodIn_sub (fun _ h => List.mem_cons_of_mem _ (List.mem_append_right _ (List.mem_append_right _ (List.mem_append_right _ (List.mem_append_right _ (h)))))) (by decide +kernel))
set_option maxHeartbeats 4000000 in
set_option maxRecDepth 100000 in
theorem a_X9_countByAll_0 (l : Launch) (D : va_G) (ty : Nat → ClassId) (td mi sz : Nat) (x21 : Nat) (x22 : Nat) (x23 : Nat) (x24 : Nat) (x25 : Nat) (x26 : Nat) (x27 : Nat) (x8 : Nat) (x1 : Nat) (x9 : Nat) (x10 : Nat) (x12 : Nat) (x14 : Nat) (x15 : Nat) (x16 : Nat) (x17 : Nat) (x18 : Nat) (x19 : Nat) (x20 : Nat) (x28 : Nat) (x35 : Nat) (x36 : Nat) (x37 : Nat) (x38 : Nat) : Met l yX9_countByAll vs_a_X9_countByAll_0 { frames := 3, cells := 0, slots := 0, locals := 69 } (va_Pc [.ref x20] (wq_P D ty td mi [(x21, .inr (12, [.ref x22, .ref x23, .ref x24, .ref x25, .ref x26, .ref x27, .int 0])), (x8, .inr (8, [.ref x1, .ref x9, .ref x10, .ref x12, .ref x14, .int 0, .ref x15, .ref x16, .ref x17, .int 0, .ref x18, .ref x19, .int 0, .int 1, .int 2, .int 0])), (x20, .inr (14, [.ref x1, .ref x8, .ref x21, .ref x28, .ref x35, .int 0, .ref x36, .ref x37, .ref x38, .int 0, .int 0, .int 0, .int 0, .int 0, .int 0, .int 0, .int 1]))] sz)) (va_Qi (fun (r : Int32) (u : va_W) => (r = 1 ∧ (u = [(x8, .inr (8, [.ref x1, .ref x9, .ref x10, .ref x12, .ref x14, .int 0, .ref x15, .ref x16, .ref x17, .int 0, .ref x18, .ref x19, .int 0, .int 1, .int 2, .int 0])), (x21, .inr (12, [.ref x22, .ref x23, .ref x24, .ref x25, .ref x26, .ref x27, .int 0])), (x20, .inr (14, [.ref x1, .ref x8, .ref x21, .ref x28, .ref x35, .int 0, .ref x36, .ref x37, .ref x38, .int 0, .int 0, .int 0, .int 0, .int 0, .int 0, .int 0, .int 1]))]))) (wq_B D (va_A [(x21, .inr (12, [.ref x22, .ref x23, .ref x24, .ref x25, .ref x26, .ref x27, .int 0])), (x8, .inr (8, [.ref x1, .ref x9, .ref x10, .ref x12, .ref x14, .int 0, .ref x15, .ref x16, .ref x17, .int 0, .ref x18, .ref x19, .int 0, .int 1, .int 2, .int 0])), (x20, .inr (14, [.ref x1, .ref x8, .ref x21, .ref x28, .ref x35, .int 0, .ref x36, .ref x37, .ref x38, .int 0, .int 0, .int 0, .int 0, .int 0, .int 0, .int 0, .int 1]))] sz)) (va_A [(x21, .inr (12, [.ref x22, .ref x23, .ref x24, .ref x25, .ref x26, .ref x27, .int 0])), (x8, .inr (8, [.ref x1, .ref x9, .ref x10, .ref x12, .ref x14, .int 0, .ref x15, .ref x16, .ref x17, .int 0, .ref x18, .ref x19, .int 0, .int 1, .int 2, .int 0])), (x20, .inr (14, [.ref x1, .ref x8, .ref x21, .ref x28, .ref x35, .int 0, .ref x36, .ref x37, .ref x38, .int 0, .int 0, .int 0, .int 0, .int 0, .int 0, .int 0, .int 1]))] sz)) 0 0 (va_A [(x21, .inr (12, [.ref x22, .ref x23, .ref x24, .ref x25, .ref x26, .ref x27, .int 0])), (x8, .inr (8, [.ref x1, .ref x9, .ref x10, .ref x12, .ref x14, .int 0, .ref x15, .ref x16, .ref x17, .int 0, .ref x18, .ref x19, .int 0, .int 1, .int 2, .int 0])), (x20, .inr (14, [.ref x1, .ref x8, .ref x21, .ref x28, .ref x35, .int 0, .ref x36, .ref x37, .ref x38, .int 0, .int 0, .int 0, .int 0, .int 0, .int 0, .int 0, .int 1]))] sz) := by
  refine Met.ofW (cc := cX9_countByAll) (maxL := 3) (ret := (some .int)) (by decide) rfl ?_
  intro p e s m args below meth c s₁ B hml hv
  obtain ⟨rfl, hsz, hP, hK, hD0, hE⟩ := hv
  have hx := B.exec
  have hb := B.bytes
  have hr := B.returns
  have hts := atoms_spec (ws := vs_a_X9_countByAll_0) B.pre
  have hown : s.vm.findClass RX9 = some m.cls := findClass_of_methodNamed B.named
  have hlocks := B.notSynchronized
  subst hsz
  have hD := hD0.self (sz := s.heap.size)
  generalize hAe : va_A [(x21, .inr (12, [.ref x22, .ref x23, .ref x24, .ref x25, .ref x26, .ref x27, .int 0])), (x8, .inr (8, [.ref x1, .ref x9, .ref x10, .ref x12, .ref x14, .int 0, .ref x15, .ref x16, .ref x17, .int 0, .ref x18, .ref x19, .int 0, .int 1, .int 2, .int 0])), (x20, .inr (14, [.ref x1, .ref x8, .ref x21, .ref x28, .ref x35, .int 0, .ref x36, .ref x37, .ref x38, .int 0, .int 0, .int 0, .int 0, .int 0, .int 0, .int 0, .int 1]))] s.heap.size = A at hD hE ⊢
  have hA : ∀ q : Nat, s.heap.size ≤ q → A q := fun q h => by rw [← hAe]; exact Or.inr h
  have hS : va_S A s.heap s.heap [] := va_S.rf
  have hP : va_P D vwCl [(x21, .inr (12, [.ref x22, .ref x23, .ref x24, .ref x25, .ref x26, .ref x27, .int 0])), (x8, .inr (8, [.ref x1, .ref x9, .ref x10, .ref x12, .ref x14, .int 0, .ref x15, .ref x16, .ref x17, .int 0, .ref x18, .ref x19, .int 0, .int 1, .int 2, .int 0])), (x20, .inr (14, [.ref x1, .ref x8, .ref x21, .ref x28, .ref x35, .int 0, .ref x36, .ref x37, .ref x38, .int 0, .int 0, .int 0, .int 0, .int 0, .int 0, .int 0, .int 1]))] s.heap := hP
  have hl := lv_entry ([.ref x20]) (n := 3) (Nat.le_of_ble_eq_true rfl)
  rw [lg_entry_eq]
  generalize (lg_sl ([.ref x20]) ++ List.replicate (3 - (lg_sl ([.ref x20])).length) Slot.unset).toArray = ls at hl ⊢
  have hl : lv_has ls 3 [(0, .ref x20)] := hl
  refine lv_iconst (v := 0) hx hb dX9_countByAll_0 (by decide) ?_
  refine lv_istore_n (lv' := [(1, .int 0), (0, .ref x20)]) hx hb dX9_countByAll_1 rfl hl (by decide) rfl (fun ls hl => ?_)
  refine lv_aload_n hx hb dX9_countByAll_2 rfl (lv_at hl 1 rfl) ?_
  refine wq_i (wc := [(x8, .inr (8, [.ref x1, .ref x9, .ref x10, .ref x12, .ref x14, .int 0, .ref x15, .ref x16, .ref x17, .int 0, .ref x18, .ref x19, .int 0, .int 1, .int 2, .int 0])), (x20, .inr (14, [.ref x1, .ref x8, .ref x21, .ref x28, .ref x35, .int 0, .ref x36, .ref x37, .ref x38, .int 0, .int 0, .int 0, .int 0, .int 0, .int 0, .int 0, .int 1]))]) (wr := [(x21, .inr (12, [.ref x22, .ref x23, .ref x24, .ref x25, .ref x26, .ref x27, .int 0]))]) (va_runV (As := []) (rest := []) ⟨hx, hb, hml, hown, hts⟩ (a_X9_fullSet_0 l D ty td mi s.heap.size x8 x1 x9 x10 x12 x14 x15 x16 x17 x18 x19 x20 x21 x28 x35 x36 x37 x38) (cwV 0 hts gv_a_X9_countByAll_0_0 rfl rfl rfl (by decide +kernel) ⟨(Nat.le_of_ble_eq_true rfl), (Nat.le_of_ble_eq_true rfl)⟩) (wq_preV hP hD hK hE hS hA [1, 2] rfl (by decide) 2 14 rfl rfl) rfl rfl hl.1 rfl (lv_room (Nat.le_of_ble_eq_true rfl)) dX9_countByAll_3 ⟨(Nat.le_of_ble_eq_true rfl), (Nat.le_of_ble_eq_true rfl)⟩) hS hA hP hD [1, 2] [0] rfl rfl (by decide) (by decide) (fun r u H locs hw hP hD hS => ?_)
  obtain ⟨rfl, rfl⟩ := hw
  have hP : va_P D vwCl [(x21, .inr (12, [.ref x22, .ref x23, .ref x24, .ref x25, .ref x26, .ref x27, .int 0])), (x8, .inr (8, [.ref x1, .ref x9, .ref x10, .ref x12, .ref x14, .int 0, .ref x15, .ref x16, .ref x17, .int 0, .ref x18, .ref x19, .int 0, .int 1, .int 2, .int 0])), (x20, .inr (14, [.ref x1, .ref x8, .ref x21, .ref x28, .ref x35, .int 0, .ref x36, .ref x37, .ref x38, .int 0, .int 0, .int 0, .int 0, .int 0, .int 0, .int 0, .int 1]))] H := hP
  have hD : va_D A [(x21, .inr (12, [.ref x22, .ref x23, .ref x24, .ref x25, .ref x26, .ref x27, .int 0])), (x8, .inr (8, [.ref x1, .ref x9, .ref x10, .ref x12, .ref x14, .int 0, .ref x15, .ref x16, .ref x17, .int 0, .ref x18, .ref x19, .int 0, .int 1, .int 2, .int 0])), (x20, .inr (14, [.ref x1, .ref x8, .ref x21, .ref x28, .ref x35, .int 0, .ref x36, .ref x37, .ref x38, .int 0, .int 0, .int 0, .int 0, .int 0, .int 0, .int 0, .int 1]))] := hD
  refine W.widen (k := 0) (n := 0) (Nat.le_of_ble_eq_true rfl) (Nat.le_of_ble_eq_true rfl) ?_
  refine lv_istore_n (lv' := [(2, .int 0), (1, .int 0), (0, .ref x20)]) hx hb dX9_countByAll_6 rfl hl (by decide) rfl (fun ls hl => ?_)
  refine lv_iload_n hx hb dX9_countByAll_7 rfl (lv_at hl 0 rfl) ?_
  refine lv_if_lt (tgt := 44) hx hb dX9_countByAll_8 (by decide) (fun c0 => absurd c0 (by decide)) (fun _ => ?_)
  refine lv_aload_n hx hb dX9_countByAll_11 rfl (lv_at hl 2 rfl) ?_
  refine lv_iload_n hx hb dX9_countByAll_12 rfl (lv_at hl 0 rfl) ?_
  refine wq_i (wc := [(x20, .inr (14, [.ref x1, .ref x8, .ref x21, .ref x28, .ref x35, .int 0, .ref x36, .ref x37, .ref x38, .int 0, .int 0, .int 0, .int 0, .int 0, .int 0, .int 0, .int 1]))]) (wr := [(x21, .inr (12, [.ref x22, .ref x23, .ref x24, .ref x25, .ref x26, .ref x27, .int 0])), (x8, .inr (8, [.ref x1, .ref x9, .ref x10, .ref x12, .ref x14, .int 0, .ref x15, .ref x16, .ref x17, .int 0, .ref x18, .ref x19, .int 0, .int 1, .int 2, .int 0]))]) (va_runV (As := [.int 0]) (rest := []) ⟨hx, hb, hml, hown, hts⟩ (a_X9_fits_0 l D ty td mi H.size x20 x1 x8 x21 x28 x35 x36 x37 x38) (cwV 1 hts gv_a_X9_countByAll_0_1 rfl rfl rfl (by decide +kernel) ⟨(Nat.le_of_ble_eq_true rfl), (Nat.le_of_ble_eq_true rfl)⟩) (wq_preV hP hD hK hE hS hA [2] rfl (by decide) 2 14 rfl rfl) rfl rfl hl.1 rfl (lv_room (Nat.le_of_ble_eq_true rfl)) dX9_countByAll_13 ⟨(Nat.le_of_ble_eq_true rfl), (Nat.le_of_ble_eq_true rfl)⟩) hS hA hP hD [2] [0, 1] rfl rfl (by decide) (by decide) (fun r u H locs hw hP hD hS => ?_)
  obtain ⟨rfl, rfl⟩ := hw
  have hP : va_P D vwCl [(x21, .inr (12, [.ref x22, .ref x23, .ref x24, .ref x25, .ref x26, .ref x27, .int 0])), (x8, .inr (8, [.ref x1, .ref x9, .ref x10, .ref x12, .ref x14, .int 0, .ref x15, .ref x16, .ref x17, .int 0, .ref x18, .ref x19, .int 0, .int 1, .int 2, .int 0])), (x20, .inr (14, [.ref x1, .ref x8, .ref x21, .ref x28, .ref x35, .int 0, .ref x36, .ref x37, .ref x38, .int 0, .int 0, .int 0, .int 0, .int 0, .int 0, .int 0, .int 1]))] H := hP
  have hD : va_D A [(x21, .inr (12, [.ref x22, .ref x23, .ref x24, .ref x25, .ref x26, .ref x27, .int 0])), (x8, .inr (8, [.ref x1, .ref x9, .ref x10, .ref x12, .ref x14, .int 0, .ref x15, .ref x16, .ref x17, .int 0, .ref x18, .ref x19, .int 0, .int 1, .int 2, .int 0])), (x20, .inr (14, [.ref x1, .ref x8, .ref x21, .ref x28, .ref x35, .int 0, .ref x36, .ref x37, .ref x38, .int 0, .int 0, .int 0, .int 0, .int 0, .int 0, .int 0, .int 1]))] := hD
  refine W.widen (k := 0) (n := 0) (Nat.le_of_ble_eq_true rfl) (Nat.le_of_ble_eq_true rfl) ?_
  refine lv_if_eq (tgt := 38) hx hb dX9_countByAll_16 (by decide) (fun c0 => absurd c0 (by decide)) (fun _ => ?_)
  refine lv_aload_n hx hb dX9_countByAll_19 rfl (lv_at hl 2 rfl) ?_
  refine lv_iload_n hx hb dX9_countByAll_20 rfl (lv_at hl 0 rfl) ?_
  refine wq_i (wc := [(x21, .inr (12, [.ref x22, .ref x23, .ref x24, .ref x25, .ref x26, .ref x27, .int 0])), (x20, .inr (14, [.ref x1, .ref x8, .ref x21, .ref x28, .ref x35, .int 0, .ref x36, .ref x37, .ref x38, .int 0, .int 0, .int 0, .int 0, .int 0, .int 0, .int 0, .int 1]))]) (wr := [(x8, .inr (8, [.ref x1, .ref x9, .ref x10, .ref x12, .ref x14, .int 0, .ref x15, .ref x16, .ref x17, .int 0, .ref x18, .ref x19, .int 0, .int 1, .int 2, .int 0]))]) (va_runV (As := [.int 0]) (rest := []) ⟨hx, hb, hml, hown, hts⟩ (a_X9_isModel_0 l D ty td mi H.size x21 x22 x23 x24 x25 x26 x27 x20 x1 x8 x28 x35 x36 x37 x38) (cwV 1 hts gv_a_X9_countByAll_0_2 rfl rfl rfl (by decide +kernel) ⟨(Nat.le_of_ble_eq_true rfl), (Nat.le_of_ble_eq_true rfl)⟩) (wq_preV hP hD hK hE hS hA [0, 2] rfl (by decide) 2 14 rfl rfl) rfl rfl hl.1 rfl (lv_room (Nat.le_of_ble_eq_true rfl)) dX9_countByAll_21 ⟨(Nat.le_of_ble_eq_true rfl), (Nat.le_of_ble_eq_true rfl)⟩) hS hA hP hD [0, 2] [1] rfl rfl (by decide) (by decide) (fun r u H locs hw hP hD hS => ?_)
  obtain ⟨rfl, rfl⟩ := hw
  have hP : va_P D vwCl [(x8, .inr (8, [.ref x1, .ref x9, .ref x10, .ref x12, .ref x14, .int 0, .ref x15, .ref x16, .ref x17, .int 0, .ref x18, .ref x19, .int 0, .int 1, .int 2, .int 0])), (x21, .inr (12, [.ref x22, .ref x23, .ref x24, .ref x25, .ref x26, .ref x27, .int 0])), (x20, .inr (14, [.ref x1, .ref x8, .ref x21, .ref x28, .ref x35, .int 0, .ref x36, .ref x37, .ref x38, .int 0, .int 0, .int 0, .int 0, .int 0, .int 0, .int 0, .int 1]))] H := hP
  have hD : va_D A [(x8, .inr (8, [.ref x1, .ref x9, .ref x10, .ref x12, .ref x14, .int 0, .ref x15, .ref x16, .ref x17, .int 0, .ref x18, .ref x19, .int 0, .int 1, .int 2, .int 0])), (x21, .inr (12, [.ref x22, .ref x23, .ref x24, .ref x25, .ref x26, .ref x27, .int 0])), (x20, .inr (14, [.ref x1, .ref x8, .ref x21, .ref x28, .ref x35, .int 0, .ref x36, .ref x37, .ref x38, .int 0, .int 0, .int 0, .int 0, .int 0, .int 0, .int 0, .int 1]))] := hD
  refine W.widen (k := 0) (n := 0) (Nat.le_of_ble_eq_true rfl) (Nat.le_of_ble_eq_true rfl) ?_
  refine lv_if_eq (tgt := 38) hx hb dX9_countByAll_24 (by decide) (fun c0 => absurd c0 (by decide)) (fun _ => ?_)
  refine lv_aload_n hx hb dX9_countByAll_27 rfl (lv_at hl 2 rfl) ?_
  refine lv_iload_n hx hb dX9_countByAll_28 rfl (lv_at hl 0 rfl) ?_
  refine wq_i (wc := [(x21, .inr (12, [.ref x22, .ref x23, .ref x24, .ref x25, .ref x26, .ref x27, .int 0])), (x20, .inr (14, [.ref x1, .ref x8, .ref x21, .ref x28, .ref x35, .int 0, .ref x36, .ref x37, .ref x38, .int 0, .int 0, .int 0, .int 0, .int 0, .int 0, .int 0, .int 1]))]) (wr := [(x8, .inr (8, [.ref x1, .ref x9, .ref x10, .ref x12, .ref x14, .int 0, .ref x15, .ref x16, .ref x17, .int 0, .ref x18, .ref x19, .int 0, .int 1, .int 2, .int 0]))]) (va_runV (As := [.int 0]) (rest := []) ⟨hx, hb, hml, hown, hts⟩ (a_X9_hasSmallerByAll_0 l D ty td mi H.size x21 x22 x23 x24 x25 x26 x27 x20 x1 x8 x28 x35 x36 x37 x38) (cwV 1 hts gv_a_X9_countByAll_0_3 rfl rfl rfl (by decide +kernel) ⟨(Nat.le_of_ble_eq_true rfl), (Nat.le_of_ble_eq_true rfl)⟩) (wq_preV hP hD hK hE hS hA [1, 2] rfl (by decide) 2 14 rfl rfl) rfl rfl hl.1 rfl (lv_room (Nat.le_of_ble_eq_true rfl)) dX9_countByAll_29 ⟨(Nat.le_of_ble_eq_true rfl), (Nat.le_of_ble_eq_true rfl)⟩) hS hA hP hD [1, 2] [0] rfl rfl (by decide) (by decide) (fun r u H locs hw hP hD hS => ?_)
  obtain ⟨rfl, rfl⟩ := hw
  have hP : va_P D vwCl [(x8, .inr (8, [.ref x1, .ref x9, .ref x10, .ref x12, .ref x14, .int 0, .ref x15, .ref x16, .ref x17, .int 0, .ref x18, .ref x19, .int 0, .int 1, .int 2, .int 0])), (x21, .inr (12, [.ref x22, .ref x23, .ref x24, .ref x25, .ref x26, .ref x27, .int 0])), (x20, .inr (14, [.ref x1, .ref x8, .ref x21, .ref x28, .ref x35, .int 0, .ref x36, .ref x37, .ref x38, .int 0, .int 0, .int 0, .int 0, .int 0, .int 0, .int 0, .int 1]))] H := hP
  have hD : va_D A [(x8, .inr (8, [.ref x1, .ref x9, .ref x10, .ref x12, .ref x14, .int 0, .ref x15, .ref x16, .ref x17, .int 0, .ref x18, .ref x19, .int 0, .int 1, .int 2, .int 0])), (x21, .inr (12, [.ref x22, .ref x23, .ref x24, .ref x25, .ref x26, .ref x27, .int 0])), (x20, .inr (14, [.ref x1, .ref x8, .ref x21, .ref x28, .ref x35, .int 0, .ref x36, .ref x37, .ref x38, .int 0, .int 0, .int 0, .int 0, .int 0, .int 0, .int 0, .int 1]))] := hD
  refine W.widen (k := 0) (n := 0) (Nat.le_of_ble_eq_true rfl) (Nat.le_of_ble_eq_true rfl) ?_
  refine lv_if_ne (tgt := 38) hx hb dX9_countByAll_32 (by decide) (fun c0 => absurd (by decide) c0) (fun _ => ?_)
  refine lv_iinc (v := 1) (lv' := [(1, .int 1), (2, .int 0), (0, .ref x20)]) hx hb dX9_countByAll_35 hl (k := 1) rfl (by decide) (by decide) rfl (fun ls hl => ?_)
  refine lv_iinc (v := (-1)) (lv' := [(2, .int (-1)), (1, .int 1), (0, .ref x20)]) hx hb dX9_countByAll_38 hl (k := 1) rfl (by decide) (by decide) rfl (fun ls hl => ?_)
  refine lv_goto (tgt := 7) hx hb dX9_countByAll_41 (by decide) ?_
  refine lv_iload_n hx hb dX9_countByAll_7 rfl (lv_at hl 0 rfl) ?_
  refine lv_if_lt (tgt := 44) hx hb dX9_countByAll_8 (by decide) (fun _ => ?_) (fun c0 => absurd (by decide) c0)
  refine lv_iload_n hx hb dX9_countByAll_44 rfl (lv_at hl 1 rfl) ?_
  have hP9 := hP.sub (ws' := [(x8, .inr (8, [.ref x1, .ref x9, .ref x10, .ref x12, .ref x14, .int 0, .ref x15, .ref x16, .ref x17, .int 0, .ref x18, .ref x19, .int 0, .int 1, .int 2, .int 0])), (x21, .inr (12, [.ref x22, .ref x23, .ref x24, .ref x25, .ref x26, .ref x27, .int 0])), (x20, .inr (14, [.ref x1, .ref x8, .ref x21, .ref x28, .ref x35, .int 0, .ref x36, .ref x37, .ref x38, .int 0, .int 0, .int 0, .int 0, .int 0, .int 0, .int 0, .int 1]))]) [0, 1, 2] rfl
  have hD9 := hD.sub (ws' := [(x8, .inr (8, [.ref x1, .ref x9, .ref x10, .ref x12, .ref x14, .int 0, .ref x15, .ref x16, .ref x17, .int 0, .ref x18, .ref x19, .int 0, .int 1, .int 2, .int 0])), (x21, .inr (12, [.ref x22, .ref x23, .ref x24, .ref x25, .ref x26, .ref x27, .int 0])), (x20, .inr (14, [.ref x1, .ref x8, .ref x21, .ref x28, .ref x35, .int 0, .ref x36, .ref x37, .ref x38, .int 0, .int 0, .int 0, .int 0, .int 0, .int 0, .int 0, .int 1]))]) [0, 1, 2] (by decide) rfl
  refine W.widen (k := 0) (n := 0) (Nat.le_of_ble_eq_true rfl) (Nat.le_of_ble_eq_true rfl) ?_
  exact W.iret (v := 1) hx hb hr (fun t ht hW => ⟨⟨1, [(x8, .inr (8, [.ref x1, .ref x9, .ref x10, .ref x12, .ref x14, .int 0, .ref x15, .ref x16, .ref x17, .int 0, .ref x18, .ref x19, .int 0, .int 1, .int 2, .int 0])), (x21, .inr (12, [.ref x22, .ref x23, .ref x24, .ref x25, .ref x26, .ref x27, .int 0])), (x20, .inr (14, [.ref x1, .ref x8, .ref x21, .ref x28, .ref x35, .int 0, .ref x36, .ref x37, .ref x38, .int 0, .int 0, .int 0, .int 0, .int 0, .int 0, .int 0, .int 1]))], rfl, ⟨rfl, rfl⟩, wq_B.of ht hP9 hD9⟩, hS.F ht⟩) hS.2.2 dX9_countByAll_45
def vs_k_X10_walkByAll : List Cond := .code yX10_walkByAll cX10_walkByAll 1 (some .int) :: ([.fieldLink RX10 21 "AnswerFold" "grounding" "LAnswerFold$Grounding;", .methodLink RX10 251 yX3_refresh, .instanceMethod yX3_refresh, .selects RX3 yX3_refresh yX3_refresh, .initialized RX3, .fieldLink RX10 30 "AnswerFold" "solver" "LAnswerFold$Solver;", .fieldLink RX10 46 "AnswerFold" "assumedIn" "LAnswerFold$AtomSet;", .fieldLink RX10 50 "AnswerFold" "assumedOut" "LAnswerFold$AtomSet;", .methodLink RX10 284 yX9_prepare, .instanceMethod yX9_prepare, .selects RX9 yX9_prepare yX9_prepare, .initialized RX9, .methodLink RX10 296 yX9_countByAll, .instanceMethod yX9_countByAll, .selects RX9 yX9_countByAll yX9_countByAll] ++ (u_ws RX10 TX10 7 ++ (vs_k_X3_refresh ++ (u_ws RX3 TX3 16 ++ (vs_a_X9_prepare_0 ++ (vs_a_X9_countByAll_0))))))
theorem iv_k_X10_walkByAll_X10 : ∀ w ∈ u_ws RX10 TX10 7, w ∈ vs_k_X10_walkByAll := (fun _ h => List.mem_cons_of_mem _ (List.mem_append_right _ (List.mem_append_left _ h)))
theorem iv_k_X10_walkByAll_X3 : ∀ w ∈ u_ws RX3 TX3 16, w ∈ vs_k_X10_walkByAll := (fun _ h => List.mem_cons_of_mem _ (List.mem_append_right _ (List.mem_append_right _ (List.mem_append_right _ (List.mem_append_left _ h)))))
set_option maxRecDepth 20000 in
theorem gv_k_X10_walkByAll_0 : GoodIn vs_k_X10_walkByAll (wsV RX10 251 RX3 yX3_refresh vs_k_X3_refresh) := goodIn_app (goodIn_sub (by decide +kernel) (by decide +kernel)) (goodIn_sub (fun _ h => List.mem_cons_of_mem _ (List.mem_append_right _ (List.mem_append_right _ (List.mem_append_left _ h)))) (by decide +kernel))
set_option maxRecDepth 20000 in
theorem gv_k_X10_walkByAll_1 : GoodIn vs_k_X10_walkByAll (wsV RX10 284 RX9 yX9_prepare vs_a_X9_prepare_0) := goodIn_app (goodIn_sub (by decide +kernel) (by decide +kernel)) (goodIn_sub (fun _ h => List.mem_cons_of_mem _ (List.mem_append_right _ (List.mem_append_right _ (List.mem_append_right _ (List.mem_append_right _ (List.mem_append_left _ h)))))) (by decide +kernel))
set_option maxRecDepth 20000 in
theorem gv_k_X10_walkByAll_2 : GoodIn vs_k_X10_walkByAll (wsV RX10 296 RX9 yX9_countByAll vs_a_X9_countByAll_0) := goodIn_app (goodIn_sub (by decide +kernel) (by decide +kernel)) (goodIn_sub (fun _ h => List.mem_cons_of_mem _ (List.mem_append_right _ (List.mem_append_right _ (List.mem_append_right _ (List.mem_append_right _ (List.mem_append_right _ (h))))))) (by decide +kernel))
set_option maxHeartbeats 4000000 in
set_option maxRecDepth 100000 in
theorem k_X10_walkByAll (l : Launch) (D : va_G) (ty : Nat → ClassId) (td mi sz : Nat) (x0 : Nat) (x1 : Nat) (x8 : Nat) (x20 : Nat) (x39 : Nat) (x41 : Nat) (x43 : Nat) (x45 : Nat) (x2 : Nat) (x3 : Nat) (x4 : Nat) (x5 : Nat) (x6 : Nat) (x7 : Nat) (x9 : Nat) (x10 : Nat) (x12 : Nat) (x14 : Nat) (x15 : Nat) (x16 : Nat) (x17 : Nat) (x18 : Nat) (x19 : Nat) (x11 : Nat) (x13 : Nat) (x21 : Nat) (x28 : Nat) (x35 : Nat) (x36 : Nat) (x37 : Nat) (x38 : Nat) (x22 : Nat) (x23 : Nat) (x24 : Nat) (x25 : Nat) (x26 : Nat) (x27 : Nat) (x29 : Nat) (x30 : Nat) (x31 : Nat) (x32 : Nat) (x33 : Nat) (x34 : Nat) (x42 : Nat) (x44 : Nat) : Met l yX10_walkByAll vs_k_X10_walkByAll { frames := 4, cells := 0, slots := 0, locals := 91 } (va_Pc [.ref x0] (wq_P D ty td mi [(x0, .inr (15, [.ref x1, .ref x8, .ref x20, .ref x39, .ref x41, .ref x43, .ref x45])), (x1, .inr (11, [.ref x2, .int 0, .ref x3, .int 0, .ref x4, .ref x5, .int 1, .ref x6, .ref x7, .int 0])), (x8, .inr (8, [.ref x1, .ref x9, .ref x10, .ref x12, .ref x14, .int 0, .ref x15, .ref x16, .ref x17, .int 0, .ref x18, .ref x19, .int 0, .int 0, .int 0, .int 0])), (x10, .inr (6, [.ref x11])), (x11, .inl (ty 1, 6, .inr (.inl (fun _ => 0)))), (x12, .inr (6, [.ref x13])), (x13, .inl (ty 1, 6, .inr (.inl (fun _ => 0)))), (x17, .inl (ty 0, 20, .inl (fun _ => 0))), (x19, .inl (ty 0, 384, .inl (fun _ => 0))), (x20, .inr (14, [.ref x1, .ref x8, .ref x21, .ref x28, .ref x35, .int 0, .ref x36, .ref x37, .ref x38, .int 0, .int 0, .int 0, .int 0, .int 0, .int 0, .int 0, .int 0])), (x21, .inr (12, [.ref x22, .ref x23, .ref x24, .ref x25, .ref x26, .ref x27, .int 0])), (x28, .inr (12, [.ref x29, .ref x30, .ref x31, .ref x32, .ref x33, .ref x34, .int 0])), (x36, .inl (ty 0, 6, .inl (fun _ => 0))), (x37, .inl (ty 0, 6, .inl (fun _ => 0))), (x41, .inr (6, [.ref x42])), (x42, .inl (ty 1, 6, .inr (.inl (fun _ => 0)))), (x43, .inr (6, [.ref x44])), (x44, .inl (ty 1, 6, .inr (.inl (fun _ => 0))))] sz)) (va_Qi (fun (r : Int32) (u : va_W) => (r = 1 ∧ (u = []))) (wq_B D (va_A [(x0, .inr (15, [.ref x1, .ref x8, .ref x20, .ref x39, .ref x41, .ref x43, .ref x45])), (x1, .inr (11, [.ref x2, .int 0, .ref x3, .int 0, .ref x4, .ref x5, .int 1, .ref x6, .ref x7, .int 0])), (x8, .inr (8, [.ref x1, .ref x9, .ref x10, .ref x12, .ref x14, .int 0, .ref x15, .ref x16, .ref x17, .int 0, .ref x18, .ref x19, .int 0, .int 0, .int 0, .int 0])), (x10, .inr (6, [.ref x11])), (x11, .inl (ty 1, 6, .inr (.inl (fun _ => 0)))), (x12, .inr (6, [.ref x13])), (x13, .inl (ty 1, 6, .inr (.inl (fun _ => 0)))), (x17, .inl (ty 0, 20, .inl (fun _ => 0))), (x19, .inl (ty 0, 384, .inl (fun _ => 0))), (x20, .inr (14, [.ref x1, .ref x8, .ref x21, .ref x28, .ref x35, .int 0, .ref x36, .ref x37, .ref x38, .int 0, .int 0, .int 0, .int 0, .int 0, .int 0, .int 0, .int 0])), (x21, .inr (12, [.ref x22, .ref x23, .ref x24, .ref x25, .ref x26, .ref x27, .int 0])), (x28, .inr (12, [.ref x29, .ref x30, .ref x31, .ref x32, .ref x33, .ref x34, .int 0])), (x36, .inl (ty 0, 6, .inl (fun _ => 0))), (x37, .inl (ty 0, 6, .inl (fun _ => 0))), (x41, .inr (6, [.ref x42])), (x42, .inl (ty 1, 6, .inr (.inl (fun _ => 0)))), (x43, .inr (6, [.ref x44])), (x44, .inl (ty 1, 6, .inr (.inl (fun _ => 0))))] sz)) (va_A [(x0, .inr (15, [.ref x1, .ref x8, .ref x20, .ref x39, .ref x41, .ref x43, .ref x45])), (x1, .inr (11, [.ref x2, .int 0, .ref x3, .int 0, .ref x4, .ref x5, .int 1, .ref x6, .ref x7, .int 0])), (x8, .inr (8, [.ref x1, .ref x9, .ref x10, .ref x12, .ref x14, .int 0, .ref x15, .ref x16, .ref x17, .int 0, .ref x18, .ref x19, .int 0, .int 0, .int 0, .int 0])), (x10, .inr (6, [.ref x11])), (x11, .inl (ty 1, 6, .inr (.inl (fun _ => 0)))), (x12, .inr (6, [.ref x13])), (x13, .inl (ty 1, 6, .inr (.inl (fun _ => 0)))), (x17, .inl (ty 0, 20, .inl (fun _ => 0))), (x19, .inl (ty 0, 384, .inl (fun _ => 0))), (x20, .inr (14, [.ref x1, .ref x8, .ref x21, .ref x28, .ref x35, .int 0, .ref x36, .ref x37, .ref x38, .int 0, .int 0, .int 0, .int 0, .int 0, .int 0, .int 0, .int 0])), (x21, .inr (12, [.ref x22, .ref x23, .ref x24, .ref x25, .ref x26, .ref x27, .int 0])), (x28, .inr (12, [.ref x29, .ref x30, .ref x31, .ref x32, .ref x33, .ref x34, .int 0])), (x36, .inl (ty 0, 6, .inl (fun _ => 0))), (x37, .inl (ty 0, 6, .inl (fun _ => 0))), (x41, .inr (6, [.ref x42])), (x42, .inl (ty 1, 6, .inr (.inl (fun _ => 0)))), (x43, .inr (6, [.ref x44])), (x44, .inl (ty 1, 6, .inr (.inl (fun _ => 0))))] sz)) 0 0 (va_A [(x0, .inr (15, [.ref x1, .ref x8, .ref x20, .ref x39, .ref x41, .ref x43, .ref x45])), (x1, .inr (11, [.ref x2, .int 0, .ref x3, .int 0, .ref x4, .ref x5, .int 1, .ref x6, .ref x7, .int 0])), (x8, .inr (8, [.ref x1, .ref x9, .ref x10, .ref x12, .ref x14, .int 0, .ref x15, .ref x16, .ref x17, .int 0, .ref x18, .ref x19, .int 0, .int 0, .int 0, .int 0])), (x10, .inr (6, [.ref x11])), (x11, .inl (ty 1, 6, .inr (.inl (fun _ => 0)))), (x12, .inr (6, [.ref x13])), (x13, .inl (ty 1, 6, .inr (.inl (fun _ => 0)))), (x17, .inl (ty 0, 20, .inl (fun _ => 0))), (x19, .inl (ty 0, 384, .inl (fun _ => 0))), (x20, .inr (14, [.ref x1, .ref x8, .ref x21, .ref x28, .ref x35, .int 0, .ref x36, .ref x37, .ref x38, .int 0, .int 0, .int 0, .int 0, .int 0, .int 0, .int 0, .int 0])), (x21, .inr (12, [.ref x22, .ref x23, .ref x24, .ref x25, .ref x26, .ref x27, .int 0])), (x28, .inr (12, [.ref x29, .ref x30, .ref x31, .ref x32, .ref x33, .ref x34, .int 0])), (x36, .inl (ty 0, 6, .inl (fun _ => 0))), (x37, .inl (ty 0, 6, .inl (fun _ => 0))), (x41, .inr (6, [.ref x42])), (x42, .inl (ty 1, 6, .inr (.inl (fun _ => 0)))), (x43, .inr (6, [.ref x44])), (x44, .inl (ty 1, 6, .inr (.inl (fun _ => 0))))] sz) := by
  refine Met.ofW (cc := cX10_walkByAll) (maxL := 1) (ret := (some .int)) (by decide) rfl ?_
  intro p e s m args below meth c s₁ B hml hv
  obtain ⟨rfl, hsz, hP, hK, hD0, hE⟩ := hv
  have hx := B.exec
  have hb := B.bytes
  have hr := B.returns
  have hts := atoms_spec (ws := vs_k_X10_walkByAll) B.pre
  have hown : s.vm.findClass RX10 = some m.cls := findClass_of_methodNamed B.named
  have hlocks := B.notSynchronized
  subst hsz
  have hD := hD0.self (sz := s.heap.size)
  generalize hAe : va_A [(x0, .inr (15, [.ref x1, .ref x8, .ref x20, .ref x39, .ref x41, .ref x43, .ref x45])), (x1, .inr (11, [.ref x2, .int 0, .ref x3, .int 0, .ref x4, .ref x5, .int 1, .ref x6, .ref x7, .int 0])), (x8, .inr (8, [.ref x1, .ref x9, .ref x10, .ref x12, .ref x14, .int 0, .ref x15, .ref x16, .ref x17, .int 0, .ref x18, .ref x19, .int 0, .int 0, .int 0, .int 0])), (x10, .inr (6, [.ref x11])), (x11, .inl (ty 1, 6, .inr (.inl (fun _ => 0)))), (x12, .inr (6, [.ref x13])), (x13, .inl (ty 1, 6, .inr (.inl (fun _ => 0)))), (x17, .inl (ty 0, 20, .inl (fun _ => 0))), (x19, .inl (ty 0, 384, .inl (fun _ => 0))), (x20, .inr (14, [.ref x1, .ref x8, .ref x21, .ref x28, .ref x35, .int 0, .ref x36, .ref x37, .ref x38, .int 0, .int 0, .int 0, .int 0, .int 0, .int 0, .int 0, .int 0])), (x21, .inr (12, [.ref x22, .ref x23, .ref x24, .ref x25, .ref x26, .ref x27, .int 0])), (x28, .inr (12, [.ref x29, .ref x30, .ref x31, .ref x32, .ref x33, .ref x34, .int 0])), (x36, .inl (ty 0, 6, .inl (fun _ => 0))), (x37, .inl (ty 0, 6, .inl (fun _ => 0))), (x41, .inr (6, [.ref x42])), (x42, .inl (ty 1, 6, .inr (.inl (fun _ => 0)))), (x43, .inr (6, [.ref x44])), (x44, .inl (ty 1, 6, .inr (.inl (fun _ => 0))))] s.heap.size = A at hD hE ⊢
  have hA : ∀ q : Nat, s.heap.size ≤ q → A q := fun q h => by rw [← hAe]; exact Or.inr h
  have hS : va_S A s.heap s.heap [] := va_S.rf
  have hP : va_P D vwCl [(x0, .inr (15, [.ref x1, .ref x8, .ref x20, .ref x39, .ref x41, .ref x43, .ref x45])), (x1, .inr (11, [.ref x2, .int 0, .ref x3, .int 0, .ref x4, .ref x5, .int 1, .ref x6, .ref x7, .int 0])), (x8, .inr (8, [.ref x1, .ref x9, .ref x10, .ref x12, .ref x14, .int 0, .ref x15, .ref x16, .ref x17, .int 0, .ref x18, .ref x19, .int 0, .int 0, .int 0, .int 0])), (x10, .inr (6, [.ref x11])), (x11, .inl (ty 1, 6, .inr (.inl (fun _ => 0)))), (x12, .inr (6, [.ref x13])), (x13, .inl (ty 1, 6, .inr (.inl (fun _ => 0)))), (x17, .inl (ty 0, 20, .inl (fun _ => 0))), (x19, .inl (ty 0, 384, .inl (fun _ => 0))), (x20, .inr (14, [.ref x1, .ref x8, .ref x21, .ref x28, .ref x35, .int 0, .ref x36, .ref x37, .ref x38, .int 0, .int 0, .int 0, .int 0, .int 0, .int 0, .int 0, .int 0])), (x21, .inr (12, [.ref x22, .ref x23, .ref x24, .ref x25, .ref x26, .ref x27, .int 0])), (x28, .inr (12, [.ref x29, .ref x30, .ref x31, .ref x32, .ref x33, .ref x34, .int 0])), (x36, .inl (ty 0, 6, .inl (fun _ => 0))), (x37, .inl (ty 0, 6, .inl (fun _ => 0))), (x41, .inr (6, [.ref x42])), (x42, .inl (ty 1, 6, .inr (.inl (fun _ => 0)))), (x43, .inr (6, [.ref x44])), (x44, .inl (ty 1, 6, .inr (.inl (fun _ => 0))))] s.heap := hP
  have hl := lv_entry ([.ref x0]) (n := 1) (Nat.le_of_ble_eq_true rfl)
  rw [lg_entry_eq]
  generalize (lg_sl ([.ref x0]) ++ List.replicate (1 - (lg_sl ([.ref x0])).length) Slot.unset).toArray = ls at hl ⊢
  have hl : lv_has ls 1 [(0, .ref x0)] := hl
  refine lv_aload_n hx hb dX10_walkByAll_0 rfl (lv_at hl 0 rfl) ?_
  refine va_get (D := D) (ci := 15) (v := .ref x8) (C := RX10) (T := TX10) (N := 7) hx hb hts iv_k_X10_walkByAll_X10 hown hK hP 0 rfl rfl 1 (by decide) (hts (.fieldLink RX10 21 "AnswerFold" "grounding" "LAnswerFold$Grounding;") (by decide +kernel)) (fun _ h9 => h9) rfl dX10_walkByAll_1 ?_
  refine wq_v (wc := [(x8, .inr (8, [.ref x1, .ref x9, .ref x10, .ref x12, .ref x14, .int 0, .ref x15, .ref x16, .ref x17, .int 0, .ref x18, .ref x19, .int 0, .int 0, .int 0, .int 0])), (x1, .inr (11, [.ref x2, .int 0, .ref x3, .int 0, .ref x4, .ref x5, .int 1, .ref x6, .ref x7, .int 0])), (x10, .inr (6, [.ref x11])), (x11, .inl (ty 1, 6, .inr (.inl (fun _ => 0)))), (x12, .inr (6, [.ref x13])), (x13, .inl (ty 1, 6, .inr (.inl (fun _ => 0)))), (x17, .inl (ty 0, 20, .inl (fun _ => 0))), (x19, .inl (ty 0, 384, .inl (fun _ => 0)))]) (wr := [(x0, .inr (15, [.ref x1, .ref x8, .ref x20, .ref x39, .ref x41, .ref x43, .ref x45])), (x20, .inr (14, [.ref x1, .ref x8, .ref x21, .ref x28, .ref x35, .int 0, .ref x36, .ref x37, .ref x38, .int 0, .int 0, .int 0, .int 0, .int 0, .int 0, .int 0, .int 0])), (x21, .inr (12, [.ref x22, .ref x23, .ref x24, .ref x25, .ref x26, .ref x27, .int 0])), (x28, .inr (12, [.ref x29, .ref x30, .ref x31, .ref x32, .ref x33, .ref x34, .int 0])), (x36, .inl (ty 0, 6, .inl (fun _ => 0))), (x37, .inl (ty 0, 6, .inl (fun _ => 0))), (x41, .inr (6, [.ref x42])), (x42, .inl (ty 1, 6, .inr (.inl (fun _ => 0)))), (x43, .inr (6, [.ref x44])), (x44, .inl (ty 1, 6, .inr (.inl (fun _ => 0))))]) (va_runV (As := []) (rest := []) ⟨hx, hb, hml, hown, hts⟩ (k_X3_refresh l D ty td mi s.heap.size x8 x1 x9 x10 x12 x14 x15 x16 x17 x18 x19 x2 x3 x4 x5 x6 x7 x11 x13) (cwV 0 hts gv_k_X10_walkByAll_0 rfl rfl rfl (by decide +kernel) ⟨(Nat.le_of_ble_eq_true rfl), (Nat.le_of_ble_eq_true rfl)⟩) (wq_preV hP hD hK hE hS hA [2, 1, 3, 4, 5, 6, 7, 8] rfl (by decide) 2 8 rfl rfl) rfl rfl hl.1 rfl (lv_room (Nat.le_of_ble_eq_true rfl)) dX10_walkByAll_4 ⟨(Nat.le_of_ble_eq_true rfl), (Nat.le_of_ble_eq_true rfl)⟩) hS hA hP hD [2, 1, 3, 4, 5, 6, 7, 8] [0, 9, 10, 11, 12, 13, 14, 15, 16, 17] rfl rfl (by decide) (by decide) (fun u H locs hw hP hD hS => ?_)
  obtain rfl := hw
  have hP : va_P D vwCl [(x0, .inr (15, [.ref x1, .ref x8, .ref x20, .ref x39, .ref x41, .ref x43, .ref x45])), (x20, .inr (14, [.ref x1, .ref x8, .ref x21, .ref x28, .ref x35, .int 0, .ref x36, .ref x37, .ref x38, .int 0, .int 0, .int 0, .int 0, .int 0, .int 0, .int 0, .int 0])), (x21, .inr (12, [.ref x22, .ref x23, .ref x24, .ref x25, .ref x26, .ref x27, .int 0])), (x28, .inr (12, [.ref x29, .ref x30, .ref x31, .ref x32, .ref x33, .ref x34, .int 0])), (x36, .inl (ty 0, 6, .inl (fun _ => 0))), (x37, .inl (ty 0, 6, .inl (fun _ => 0))), (x41, .inr (6, [.ref x42])), (x42, .inl (ty 1, 6, .inr (.inl (fun _ => 0)))), (x43, .inr (6, [.ref x44])), (x44, .inl (ty 1, 6, .inr (.inl (fun _ => 0)))), (x17, .inl (ty 0, 20, .inl (fun _ => 0))), (x1, .inr (11, [.ref x2, .int 0, .ref x3, .int 0, .ref x4, .ref x5, .int 1, .ref x6, .ref x7, .int 0])), (x8, .inr (8, [.ref x1, .ref x9, .ref x10, .ref x12, .ref x14, .int 0, .ref x15, .ref x16, .ref x17, .int 0, .ref x18, .ref x19, .int 0, .int 1, .int 2, .int 0])), (x10, .inr (6, [.ref x11])), (x11, .inl (ty 1, 6, .inr (.inl (fun _ => 0)))), (x12, .inr (6, [.ref x13])), (x13, .inl (ty 1, 6, .inr (.inl (fun _ => 0)))), (x19, .inl (ty 0, 384, .inl (fun j => if j < 384 then (-1) else 0)))] H := hP
  have hD : va_D A [(x0, .inr (15, [.ref x1, .ref x8, .ref x20, .ref x39, .ref x41, .ref x43, .ref x45])), (x20, .inr (14, [.ref x1, .ref x8, .ref x21, .ref x28, .ref x35, .int 0, .ref x36, .ref x37, .ref x38, .int 0, .int 0, .int 0, .int 0, .int 0, .int 0, .int 0, .int 0])), (x21, .inr (12, [.ref x22, .ref x23, .ref x24, .ref x25, .ref x26, .ref x27, .int 0])), (x28, .inr (12, [.ref x29, .ref x30, .ref x31, .ref x32, .ref x33, .ref x34, .int 0])), (x36, .inl (ty 0, 6, .inl (fun _ => 0))), (x37, .inl (ty 0, 6, .inl (fun _ => 0))), (x41, .inr (6, [.ref x42])), (x42, .inl (ty 1, 6, .inr (.inl (fun _ => 0)))), (x43, .inr (6, [.ref x44])), (x44, .inl (ty 1, 6, .inr (.inl (fun _ => 0)))), (x17, .inl (ty 0, 20, .inl (fun _ => 0))), (x1, .inr (11, [.ref x2, .int 0, .ref x3, .int 0, .ref x4, .ref x5, .int 1, .ref x6, .ref x7, .int 0])), (x8, .inr (8, [.ref x1, .ref x9, .ref x10, .ref x12, .ref x14, .int 0, .ref x15, .ref x16, .ref x17, .int 0, .ref x18, .ref x19, .int 0, .int 1, .int 2, .int 0])), (x10, .inr (6, [.ref x11])), (x11, .inl (ty 1, 6, .inr (.inl (fun _ => 0)))), (x12, .inr (6, [.ref x13])), (x13, .inl (ty 1, 6, .inr (.inl (fun _ => 0)))), (x19, .inl (ty 0, 384, .inl (fun j => if j < 384 then (-1) else 0)))] := hD
  refine W.widen (k := 0) (n := 0) (Nat.le_of_ble_eq_true rfl) (Nat.le_of_ble_eq_true rfl) ?_
  refine lv_aload_n hx hb dX10_walkByAll_7 rfl (lv_at hl 0 rfl) ?_
  refine va_get (D := D) (ci := 15) (v := .ref x8) (C := RX10) (T := TX10) (N := 7) hx hb hts iv_k_X10_walkByAll_X10 hown hK hP 0 rfl rfl 1 (by decide) (hts (.fieldLink RX10 21 "AnswerFold" "grounding" "LAnswerFold$Grounding;") (by decide +kernel)) (fun _ h9 => h9) rfl dX10_walkByAll_8 ?_
  refine va_getN (D := D) (ci := 8) (v := .int 0) (C := RX3) (T := TX3) (N := 16) hx hb hts iv_k_X10_walkByAll_X3 hown hK hP 12 rfl rfl 12 (by decide) (hE.at (.fieldLinkNest "AnswerFold" 263 "AnswerFold$Grounding" "openCount" "I" "AnswerFold") (by decide +kernel)) (fun _ h9 => h9) rfl dX10_walkByAll_11 ?_
  refine lv_bipush (v := 7) hx hb dX10_walkByAll_14 (by decide) ?_
  refine lv_icmp_gt (tgt := 32) hx hb dX10_walkByAll_16 (by decide) (fun c0 => absurd c0 (by decide)) (fun _ => ?_)
  refine lv_aload_n hx hb dX10_walkByAll_19 rfl (lv_at hl 0 rfl) ?_
  refine va_get (D := D) (ci := 15) (v := .ref x8) (C := RX10) (T := TX10) (N := 7) hx hb hts iv_k_X10_walkByAll_X10 hown hK hP 0 rfl rfl 1 (by decide) (hts (.fieldLink RX10 21 "AnswerFold" "grounding" "LAnswerFold$Grounding;") (by decide +kernel)) (fun _ h9 => h9) rfl dX10_walkByAll_20 ?_
  refine va_getN (D := D) (ci := 8) (v := .int 0) (C := RX3) (T := TX3) (N := 16) hx hb hts iv_k_X10_walkByAll_X3 hown hK hP 12 rfl rfl 9 (by decide) (hE.at (.fieldLinkNest "AnswerFold" 269 "AnswerFold$Grounding" "keptCount" "I" "AnswerFold") (by decide +kernel)) (fun _ h9 => h9) rfl dX10_walkByAll_23 ?_
  refine lv_sipush (v := 300) hx hb dX10_walkByAll_26 (by decide) ?_
  refine lv_icmp_le (tgt := 43) hx hb dX10_walkByAll_29 (by decide) (fun _ => ?_) (fun c0 => absurd (by decide) c0)
  refine lv_aload_n hx hb dX10_walkByAll_43 rfl (lv_at hl 0 rfl) ?_
  refine va_get (D := D) (ci := 15) (v := .ref x20) (C := RX10) (T := TX10) (N := 7) hx hb hts iv_k_X10_walkByAll_X10 hown hK hP 0 rfl rfl 2 (by decide) (hts (.fieldLink RX10 30 "AnswerFold" "solver" "LAnswerFold$Solver;") (by decide +kernel)) (fun _ h9 => h9) rfl dX10_walkByAll_44 ?_
  refine lv_aload_n hx hb dX10_walkByAll_47 rfl (lv_at hl 0 rfl) ?_
  refine va_get (D := D) (ci := 15) (v := .ref x41) (C := RX10) (T := TX10) (N := 7) hx hb hts iv_k_X10_walkByAll_X10 hown hK hP 0 rfl rfl 4 (by decide) (hts (.fieldLink RX10 46 "AnswerFold" "assumedIn" "LAnswerFold$AtomSet;") (by decide +kernel)) (fun _ h9 => h9) rfl dX10_walkByAll_48 ?_
  refine lv_aload_n hx hb dX10_walkByAll_51 rfl (lv_at hl 0 rfl) ?_
  refine va_get (D := D) (ci := 15) (v := .ref x43) (C := RX10) (T := TX10) (N := 7) hx hb hts iv_k_X10_walkByAll_X10 hown hK hP 0 rfl rfl 5 (by decide) (hts (.fieldLink RX10 50 "AnswerFold" "assumedOut" "LAnswerFold$AtomSet;") (by decide +kernel)) (fun _ h9 => h9) rfl dX10_walkByAll_52 ?_
  refine wq_v (wc := [(x20, .inr (14, [.ref x1, .ref x8, .ref x21, .ref x28, .ref x35, .int 0, .ref x36, .ref x37, .ref x38, .int 0, .int 0, .int 0, .int 0, .int 0, .int 0, .int 0, .int 0])), (x21, .inr (12, [.ref x22, .ref x23, .ref x24, .ref x25, .ref x26, .ref x27, .int 0])), (x28, .inr (12, [.ref x29, .ref x30, .ref x31, .ref x32, .ref x33, .ref x34, .int 0])), (x36, .inl (ty 0, 6, .inl (fun _ => 0))), (x37, .inl (ty 0, 6, .inl (fun _ => 0))), (x41, .inr (6, [.ref x42])), (x42, .inl (ty 1, 6, .inr (.inl (fun _ => 0)))), (x43, .inr (6, [.ref x44])), (x44, .inl (ty 1, 6, .inr (.inl (fun _ => 0)))), (x1, .inr (11, [.ref x2, .int 0, .ref x3, .int 0, .ref x4, .ref x5, .int 1, .ref x6, .ref x7, .int 0])), (x8, .inr (8, [.ref x1, .ref x9, .ref x10, .ref x12, .ref x14, .int 0, .ref x15, .ref x16, .ref x17, .int 0, .ref x18, .ref x19, .int 0, .int 1, .int 2, .int 0])), (x10, .inr (6, [.ref x11])), (x11, .inl (ty 1, 6, .inr (.inl (fun _ => 0))))]) (wr := [(x0, .inr (15, [.ref x1, .ref x8, .ref x20, .ref x39, .ref x41, .ref x43, .ref x45])), (x17, .inl (ty 0, 20, .inl (fun _ => 0))), (x12, .inr (6, [.ref x13])), (x13, .inl (ty 1, 6, .inr (.inl (fun _ => 0)))), (x19, .inl (ty 0, 384, .inl (fun j => if j < 384 then (-1) else 0)))]) (va_runV (As := [.ref x41, .ref x43]) (rest := []) ⟨hx, hb, hml, hown, hts⟩ (a_X9_prepare_0 l D ty td mi H.size x20 x1 x8 x21 x28 x35 x36 x37 x38 x22 x23 x24 x25 x26 x27 x29 x30 x31 x32 x33 x34 x41 x42 x43 x44 x2 x3 x4 x5 x6 x7 x9 x10 x12 x14 x15 x16 x17 x18 x19 x11) (cwV 2 hts gv_k_X10_walkByAll_1 rfl rfl rfl (by decide +kernel) ⟨(Nat.le_of_ble_eq_true rfl), (Nat.le_of_ble_eq_true rfl)⟩) (wq_preV hP hD hK hE hS hA [1, 2, 3, 4, 5, 6, 7, 8, 9, 11, 12, 13, 14] rfl (by decide) 1 14 rfl rfl) rfl rfl hl.1 rfl (lv_room (Nat.le_of_ble_eq_true rfl)) dX10_walkByAll_55 ⟨(Nat.le_of_ble_eq_true rfl), (Nat.le_of_ble_eq_true rfl)⟩) hS hA hP hD [1, 2, 3, 4, 5, 6, 7, 8, 9, 11, 12, 13, 14] [0, 10, 15, 16, 17] rfl rfl (by decide) (by decide) (fun u H locs hw hP hD hS => ?_)
  obtain rfl := hw
  have hP : va_P D vwCl [(x0, .inr (15, [.ref x1, .ref x8, .ref x20, .ref x39, .ref x41, .ref x43, .ref x45])), (x17, .inl (ty 0, 20, .inl (fun _ => 0))), (x12, .inr (6, [.ref x13])), (x13, .inl (ty 1, 6, .inr (.inl (fun _ => 0)))), (x19, .inl (ty 0, 384, .inl (fun j => if j < 384 then (-1) else 0))), (x21, .inr (12, [.ref x22, .ref x23, .ref x24, .ref x25, .ref x26, .ref x27, .int 0])), (x28, .inr (12, [.ref x29, .ref x30, .ref x31, .ref x32, .ref x33, .ref x34, .int 0])), (x36, .inl (ty 0, 6, .inl (fun _ => 0))), (x37, .inl (ty 0, 6, .inl (fun _ => 0))), (x8, .inr (8, [.ref x1, .ref x9, .ref x10, .ref x12, .ref x14, .int 0, .ref x15, .ref x16, .ref x17, .int 0, .ref x18, .ref x19, .int 0, .int 1, .int 2, .int 0])), (x10, .inr (6, [.ref x11])), (x11, .inl (ty 1, 6, .inr (.inl (fun _ => 0)))), (x1, .inr (11, [.ref x2, .int 0, .ref x3, .int 0, .ref x4, .ref x5, .int 1, .ref x6, .ref x7, .int 0])), (x41, .inr (6, [.ref x42])), (x42, .inl (ty 1, 6, .inr (.inl (fun _ => 0)))), (x43, .inr (6, [.ref x44])), (x44, .inl (ty 1, 6, .inr (.inl (fun _ => 0)))), (x20, .inr (14, [.ref x1, .ref x8, .ref x21, .ref x28, .ref x35, .int 0, .ref x36, .ref x37, .ref x38, .int 0, .int 0, .int 0, .int 0, .int 0, .int 0, .int 0, .int 1]))] H := hP
  have hD : va_D A [(x0, .inr (15, [.ref x1, .ref x8, .ref x20, .ref x39, .ref x41, .ref x43, .ref x45])), (x17, .inl (ty 0, 20, .inl (fun _ => 0))), (x12, .inr (6, [.ref x13])), (x13, .inl (ty 1, 6, .inr (.inl (fun _ => 0)))), (x19, .inl (ty 0, 384, .inl (fun j => if j < 384 then (-1) else 0))), (x21, .inr (12, [.ref x22, .ref x23, .ref x24, .ref x25, .ref x26, .ref x27, .int 0])), (x28, .inr (12, [.ref x29, .ref x30, .ref x31, .ref x32, .ref x33, .ref x34, .int 0])), (x36, .inl (ty 0, 6, .inl (fun _ => 0))), (x37, .inl (ty 0, 6, .inl (fun _ => 0))), (x8, .inr (8, [.ref x1, .ref x9, .ref x10, .ref x12, .ref x14, .int 0, .ref x15, .ref x16, .ref x17, .int 0, .ref x18, .ref x19, .int 0, .int 1, .int 2, .int 0])), (x10, .inr (6, [.ref x11])), (x11, .inl (ty 1, 6, .inr (.inl (fun _ => 0)))), (x1, .inr (11, [.ref x2, .int 0, .ref x3, .int 0, .ref x4, .ref x5, .int 1, .ref x6, .ref x7, .int 0])), (x41, .inr (6, [.ref x42])), (x42, .inl (ty 1, 6, .inr (.inl (fun _ => 0)))), (x43, .inr (6, [.ref x44])), (x44, .inl (ty 1, 6, .inr (.inl (fun _ => 0)))), (x20, .inr (14, [.ref x1, .ref x8, .ref x21, .ref x28, .ref x35, .int 0, .ref x36, .ref x37, .ref x38, .int 0, .int 0, .int 0, .int 0, .int 0, .int 0, .int 0, .int 1]))] := hD
  refine W.widen (k := 0) (n := 0) (Nat.le_of_ble_eq_true rfl) (Nat.le_of_ble_eq_true rfl) ?_
  refine lv_aload_n hx hb dX10_walkByAll_58 rfl (lv_at hl 0 rfl) ?_
  refine va_get (D := D) (ci := 15) (v := .ref x20) (C := RX10) (T := TX10) (N := 7) hx hb hts iv_k_X10_walkByAll_X10 hown hK hP 0 rfl rfl 2 (by decide) (hts (.fieldLink RX10 30 "AnswerFold" "solver" "LAnswerFold$Solver;") (by decide +kernel)) (fun _ h9 => h9) rfl dX10_walkByAll_59 ?_
  refine wq_i (wc := [(x21, .inr (12, [.ref x22, .ref x23, .ref x24, .ref x25, .ref x26, .ref x27, .int 0])), (x8, .inr (8, [.ref x1, .ref x9, .ref x10, .ref x12, .ref x14, .int 0, .ref x15, .ref x16, .ref x17, .int 0, .ref x18, .ref x19, .int 0, .int 1, .int 2, .int 0])), (x20, .inr (14, [.ref x1, .ref x8, .ref x21, .ref x28, .ref x35, .int 0, .ref x36, .ref x37, .ref x38, .int 0, .int 0, .int 0, .int 0, .int 0, .int 0, .int 0, .int 1]))]) (wr := [(x0, .inr (15, [.ref x1, .ref x8, .ref x20, .ref x39, .ref x41, .ref x43, .ref x45])), (x17, .inl (ty 0, 20, .inl (fun _ => 0))), (x12, .inr (6, [.ref x13])), (x13, .inl (ty 1, 6, .inr (.inl (fun _ => 0)))), (x19, .inl (ty 0, 384, .inl (fun j => if j < 384 then (-1) else 0))), (x28, .inr (12, [.ref x29, .ref x30, .ref x31, .ref x32, .ref x33, .ref x34, .int 0])), (x36, .inl (ty 0, 6, .inl (fun _ => 0))), (x37, .inl (ty 0, 6, .inl (fun _ => 0))), (x10, .inr (6, [.ref x11])), (x11, .inl (ty 1, 6, .inr (.inl (fun _ => 0)))), (x1, .inr (11, [.ref x2, .int 0, .ref x3, .int 0, .ref x4, .ref x5, .int 1, .ref x6, .ref x7, .int 0])), (x41, .inr (6, [.ref x42])), (x42, .inl (ty 1, 6, .inr (.inl (fun _ => 0)))), (x43, .inr (6, [.ref x44])), (x44, .inl (ty 1, 6, .inr (.inl (fun _ => 0))))]) (va_runV (As := []) (rest := []) ⟨hx, hb, hml, hown, hts⟩ (a_X9_countByAll_0 l D ty td mi H.size x21 x22 x23 x24 x25 x26 x27 x8 x1 x9 x10 x12 x14 x15 x16 x17 x18 x19 x20 x28 x35 x36 x37 x38) (cwV 0 hts gv_k_X10_walkByAll_2 rfl rfl rfl (by decide +kernel) ⟨(Nat.le_of_ble_eq_true rfl), (Nat.le_of_ble_eq_true rfl)⟩) (wq_preV hP hD hK hE hS hA [5, 9, 17] rfl (by decide) 17 14 rfl rfl) rfl rfl hl.1 rfl (lv_room (Nat.le_of_ble_eq_true rfl)) dX10_walkByAll_62 ⟨(Nat.le_of_ble_eq_true rfl), (Nat.le_of_ble_eq_true rfl)⟩) hS hA hP hD [5, 9, 17] [0, 1, 2, 3, 4, 6, 7, 8, 10, 11, 12, 13, 14, 15, 16] rfl rfl (by decide) (by decide) (fun r u H locs hw hP hD hS => ?_)
  obtain ⟨rfl, rfl⟩ := hw
  have hP : va_P D vwCl [(x0, .inr (15, [.ref x1, .ref x8, .ref x20, .ref x39, .ref x41, .ref x43, .ref x45])), (x17, .inl (ty 0, 20, .inl (fun _ => 0))), (x12, .inr (6, [.ref x13])), (x13, .inl (ty 1, 6, .inr (.inl (fun _ => 0)))), (x19, .inl (ty 0, 384, .inl (fun j => if j < 384 then (-1) else 0))), (x28, .inr (12, [.ref x29, .ref x30, .ref x31, .ref x32, .ref x33, .ref x34, .int 0])), (x36, .inl (ty 0, 6, .inl (fun _ => 0))), (x37, .inl (ty 0, 6, .inl (fun _ => 0))), (x10, .inr (6, [.ref x11])), (x11, .inl (ty 1, 6, .inr (.inl (fun _ => 0)))), (x1, .inr (11, [.ref x2, .int 0, .ref x3, .int 0, .ref x4, .ref x5, .int 1, .ref x6, .ref x7, .int 0])), (x41, .inr (6, [.ref x42])), (x42, .inl (ty 1, 6, .inr (.inl (fun _ => 0)))), (x43, .inr (6, [.ref x44])), (x44, .inl (ty 1, 6, .inr (.inl (fun _ => 0)))), (x8, .inr (8, [.ref x1, .ref x9, .ref x10, .ref x12, .ref x14, .int 0, .ref x15, .ref x16, .ref x17, .int 0, .ref x18, .ref x19, .int 0, .int 1, .int 2, .int 0])), (x21, .inr (12, [.ref x22, .ref x23, .ref x24, .ref x25, .ref x26, .ref x27, .int 0])), (x20, .inr (14, [.ref x1, .ref x8, .ref x21, .ref x28, .ref x35, .int 0, .ref x36, .ref x37, .ref x38, .int 0, .int 0, .int 0, .int 0, .int 0, .int 0, .int 0, .int 1]))] H := hP
  have hD : va_D A [(x0, .inr (15, [.ref x1, .ref x8, .ref x20, .ref x39, .ref x41, .ref x43, .ref x45])), (x17, .inl (ty 0, 20, .inl (fun _ => 0))), (x12, .inr (6, [.ref x13])), (x13, .inl (ty 1, 6, .inr (.inl (fun _ => 0)))), (x19, .inl (ty 0, 384, .inl (fun j => if j < 384 then (-1) else 0))), (x28, .inr (12, [.ref x29, .ref x30, .ref x31, .ref x32, .ref x33, .ref x34, .int 0])), (x36, .inl (ty 0, 6, .inl (fun _ => 0))), (x37, .inl (ty 0, 6, .inl (fun _ => 0))), (x10, .inr (6, [.ref x11])), (x11, .inl (ty 1, 6, .inr (.inl (fun _ => 0)))), (x1, .inr (11, [.ref x2, .int 0, .ref x3, .int 0, .ref x4, .ref x5, .int 1, .ref x6, .ref x7, .int 0])), (x41, .inr (6, [.ref x42])), (x42, .inl (ty 1, 6, .inr (.inl (fun _ => 0)))), (x43, .inr (6, [.ref x44])), (x44, .inl (ty 1, 6, .inr (.inl (fun _ => 0)))), (x8, .inr (8, [.ref x1, .ref x9, .ref x10, .ref x12, .ref x14, .int 0, .ref x15, .ref x16, .ref x17, .int 0, .ref x18, .ref x19, .int 0, .int 1, .int 2, .int 0])), (x21, .inr (12, [.ref x22, .ref x23, .ref x24, .ref x25, .ref x26, .ref x27, .int 0])), (x20, .inr (14, [.ref x1, .ref x8, .ref x21, .ref x28, .ref x35, .int 0, .ref x36, .ref x37, .ref x38, .int 0, .int 0, .int 0, .int 0, .int 0, .int 0, .int 0, .int 1]))] := hD
  refine W.widen (k := 0) (n := 0) (Nat.le_of_ble_eq_true rfl) (Nat.le_of_ble_eq_true rfl) ?_
  have hP9 := hP.sub (ws' := []) [] rfl
  have hD9 := hD.sub (ws' := []) [] (by decide) rfl
  refine W.widen (k := 0) (n := 0) (Nat.le_of_ble_eq_true rfl) (Nat.le_of_ble_eq_true rfl) ?_
  exact W.iret (v := 1) hx hb hr (fun t ht hW => ⟨⟨1, [], rfl, ⟨rfl, rfl⟩, wq_B.of ht hP9 hD9⟩, hS.F ht⟩) hS.2.2 dX10_walkByAll_65
