theorem dX15_init_0 : decode cX15_init 0 = .ok (.aload_n 0, 1) := by decide +kernel
theorem dX15_init_1 : decode cX15_init 1 = .ok (.invokespecial 3, 3) := by decide +kernel
theorem dX15_init_4 : decode cX15_init 4 = .ok (.aload_n 0, 1) := by decide +kernel
theorem dX15_init_5 : decode cX15_init 5 = .ok (.iconst (-1), 1) := by decide +kernel
theorem dX15_init_6 : decode cX15_init 6 = .ok (.putfield 9, 3) := by decide +kernel
theorem dX15_init_9 : decode cX15_init 9 = .ok (.aload_n 0, 1) := by decide +kernel
theorem dX15_init_10 : decode cX15_init 10 = .ok (.new 15, 3) := by decide +kernel
theorem dX15_init_13 : decode cX15_init 13 = .ok (.dup, 1) := by decide +kernel
theorem dX15_init_14 : decode cX15_init 14 = .ok (.invokespecial 17, 3) := by decide +kernel
theorem dX15_init_17 : decode cX15_init 17 = .ok (.putfield 18, 3) := by decide +kernel
theorem dX15_init_20 : decode cX15_init 20 = .ok (.aload_n 0, 1) := by decide +kernel
theorem dX15_init_21 : decode cX15_init 21 = .ok (.new 15, 3) := by decide +kernel
theorem dX15_init_24 : decode cX15_init 24 = .ok (.dup, 1) := by decide +kernel
theorem dX15_init_25 : decode cX15_init 25 = .ok (.invokespecial 17, 3) := by decide +kernel
theorem dX15_init_28 : decode cX15_init 28 = .ok (.putfield 22, 3) := by decide +kernel
theorem dX15_init_31 : decode cX15_init 31 = .ok (.aload_n 0, 1) := by decide +kernel
theorem dX15_init_32 : decode cX15_init 32 = .ok (.iload_n 1, 1) := by decide +kernel
theorem dX15_init_33 : decode cX15_init 33 = .ok (.putfield 25, 3) := by decide +kernel
theorem dX15_init_36 : decode cX15_init 36 = .ok (.aload_n 0, 1) := by decide +kernel
theorem dX15_init_37 : decode cX15_init 37 = .ok (.iload_n 2, 1) := by decide +kernel
theorem dX15_init_38 : decode cX15_init 38 = .ok (.putfield 29, 3) := by decide +kernel
theorem dX15_init_41 : decode cX15_init 41 = .ok (.return_, 1) := by decide +kernel
theorem dX16_add_0 : decode cX16_add 0 = .ok (.aload_n 0, 1) := by decide +kernel
theorem dX16_add_1 : decode cX16_add 1 = .ok (.getfield 16, 3) := by decide +kernel
theorem dX16_add_4 : decode cX16_add 4 = .ok (.aload_n 1, 1) := by decide +kernel
theorem dX16_add_5 : decode cX16_add 5 = .ok (.invokevirtual 94, 3) := by decide +kernel
theorem dX16_add_8 : decode cX16_add 8 = .ok (.pop, 1) := by decide +kernel
theorem dX16_add_9 : decode cX16_add 9 = .ok (.aload_n 0, 1) := by decide +kernel
theorem dX16_add_10 : decode cX16_add 10 = .ok (.invokevirtual 91, 3) := by decide +kernel
theorem dX16_add_13 : decode cX16_add 13 = .ok (.aload_n 0, 1) := by decide +kernel
theorem dX16_add_14 : decode cX16_add 14 = .ok (.getfield 16, 3) := by decide +kernel
theorem dX16_add_17 : decode cX16_add 17 = .ok (.invokevirtual 76, 3) := by decide +kernel
theorem dX16_add_20 : decode cX16_add 20 = .ok (.iconst 1, 1) := by decide +kernel
theorem dX16_add_21 : decode cX16_add 21 = .ok (.isub, 1) := by decide +kernel
theorem dX16_add_22 : decode cX16_add 22 = .ok (.ireturn, 1) := by decide +kernel
theorem dX16_addDisjunction_0 : decode cX16_addDisjunction 0 = .ok (.aload_n 0, 1) := by decide +kernel
theorem dX16_addDisjunction_1 : decode cX16_addDisjunction 1 = .ok (.iconst 0, 1) := by decide +kernel
theorem dX16_addDisjunction_2 : decode cX16_addDisjunction 2 = .ok (.putfield 65, 3) := by decide +kernel
theorem dX16_addDisjunction_5 : decode cX16_addDisjunction 5 = .ok (.aload_n 0, 1) := by decide +kernel
theorem dX16_addDisjunction_6 : decode cX16_addDisjunction 6 = .ok (.iload_n 1, 1) := by decide +kernel
theorem dX16_addDisjunction_7 : decode cX16_addDisjunction 7 = .ok (.iconst 0, 1) := by decide +kernel
theorem dX16_addDisjunction_8 : decode cX16_addDisjunction 8 = .ok (.iconst 3, 1) := by decide +kernel
theorem dX16_addDisjunction_9 : decode cX16_addDisjunction 9 = .ok (.invokestatic 72, 3) := by decide +kernel
theorem dX16_addDisjunction_12 : decode cX16_addDisjunction 12 = .ok (.ifCond .ne 7, 3) := by decide +kernel
theorem dX16_addDisjunction_15 : decode cX16_addDisjunction 15 = .ok (.iconst 1, 1) := by decide +kernel
theorem dX16_addDisjunction_16 : decode cX16_addDisjunction 16 = .ok (.goto 4, 3) := by decide +kernel
theorem dX16_addDisjunction_19 : decode cX16_addDisjunction 19 = .ok (.iconst 0, 1) := by decide +kernel
theorem dX16_addDisjunction_20 : decode cX16_addDisjunction 20 = .ok (.iconst 1, 1) := by decide +kernel
theorem dX16_addDisjunction_21 : decode cX16_addDisjunction 21 = .ok (.invokevirtual 87, 3) := by decide +kernel
theorem dX16_addDisjunction_24 : decode cX16_addDisjunction 24 = .ok (.ifCond .ne 28, 3) := by decide +kernel
theorem dX16_addDisjunction_27 : decode cX16_addDisjunction 27 = .ok (.aload_n 0, 1) := by decide +kernel
theorem dX16_addDisjunction_28 : decode cX16_addDisjunction 28 = .ok (.aload_n 0, 1) := by decide +kernel
theorem dX16_addDisjunction_29 : decode cX16_addDisjunction 29 = .ok (.getfield 16, 3) := by decide +kernel
theorem dX16_addDisjunction_32 : decode cX16_addDisjunction 32 = .ok (.invokevirtual 76, 3) := by decide +kernel
theorem dX16_addDisjunction_35 : decode cX16_addDisjunction 35 = .ok (.bipush 20, 2) := by decide +kernel
theorem dX16_addDisjunction_37 : decode cX16_addDisjunction 37 = .ok (.if_icmp .ne 7, 3) := by decide +kernel
theorem dX16_addDisjunction_40 : decode cX16_addDisjunction 40 = .ok (.iconst 1, 1) := by decide +kernel
theorem dX16_addDisjunction_41 : decode cX16_addDisjunction 41 = .ok (.goto 4, 3) := by decide +kernel
theorem dX16_addDisjunction_44 : decode cX16_addDisjunction 44 = .ok (.iconst 0, 1) := by decide +kernel
theorem dX16_addDisjunction_45 : decode cX16_addDisjunction 45 = .ok (.iconst 2, 1) := by decide +kernel
theorem dX16_addDisjunction_46 : decode cX16_addDisjunction 46 = .ok (.invokevirtual 87, 3) := by decide +kernel
theorem dX16_addDisjunction_49 : decode cX16_addDisjunction 49 = .ok (.ifCond .eq 7, 3) := by decide +kernel
theorem dX16_addDisjunction_52 : decode cX16_addDisjunction 52 = .ok (.iconst 0, 1) := by decide +kernel
theorem dX16_addDisjunction_53 : decode cX16_addDisjunction 53 = .ok (.goto 17, 3) := by decide +kernel
theorem dX16_addDisjunction_56 : decode cX16_addDisjunction 56 = .ok (.aload_n 0, 1) := by decide +kernel
theorem dX16_addDisjunction_57 : decode cX16_addDisjunction 57 = .ok (.new 98, 3) := by decide +kernel
theorem dX16_addDisjunction_60 : decode cX16_addDisjunction 60 = .ok (.dup, 1) := by decide +kernel
theorem dX16_addDisjunction_61 : decode cX16_addDisjunction 61 = .ok (.bipush 100, 2) := by decide +kernel
theorem dX16_addDisjunction_63 : decode cX16_addDisjunction 63 = .ok (.iload_n 1, 1) := by decide +kernel
theorem dX16_addDisjunction_64 : decode cX16_addDisjunction 64 = .ok (.invokespecial 100, 3) := by decide +kernel
theorem dX16_addDisjunction_67 : decode cX16_addDisjunction 67 = .ok (.invokevirtual 103, 3) := by decide +kernel
theorem dX16_addDisjunction_70 : decode cX16_addDisjunction 70 = .ok (.ireturn, 1) := by decide +kernel
theorem dX16_addChoice_0 : decode cX16_addChoice 0 = .ok (.aload_n 0, 1) := by decide +kernel
theorem dX16_addChoice_1 : decode cX16_addChoice 1 = .ok (.iconst 0, 1) := by decide +kernel
theorem dX16_addChoice_2 : decode cX16_addChoice 2 = .ok (.putfield 65, 3) := by decide +kernel
theorem dX16_addChoice_5 : decode cX16_addChoice 5 = .ok (.iload_n 1, 1) := by decide +kernel
theorem dX16_addChoice_6 : decode cX16_addChoice 6 = .ok (.iconst 0, 1) := by decide +kernel
theorem dX16_addChoice_7 : decode cX16_addChoice 7 = .ok (.iconst 3, 1) := by decide +kernel
theorem dX16_addChoice_8 : decode cX16_addChoice 8 = .ok (.invokestatic 72, 3) := by decide +kernel
theorem dX16_addChoice_11 : decode cX16_addChoice 11 = .ok (.ifCond .eq 23, 3) := by decide +kernel
theorem dX16_addChoice_14 : decode cX16_addChoice 14 = .ok (.iload_n 2, 1) := by decide +kernel
theorem dX16_addChoice_15 : decode cX16_addChoice 15 = .ok (.iconst 0, 1) := by decide +kernel
theorem dX16_addChoice_16 : decode cX16_addChoice 16 = .ok (.bipush 9, 2) := by decide +kernel
theorem dX16_addChoice_18 : decode cX16_addChoice 18 = .ok (.invokestatic 72, 3) := by decide +kernel
theorem dX16_addChoice_21 : decode cX16_addChoice 21 = .ok (.ifCond .eq 13, 3) := by decide +kernel
theorem dX16_addChoice_24 : decode cX16_addChoice 24 = .ok (.iload_n 3, 1) := by decide +kernel
theorem dX16_addChoice_25 : decode cX16_addChoice 25 = .ok (.iload_n 2, 1) := by decide +kernel
theorem dX16_addChoice_26 : decode cX16_addChoice 26 = .ok (.bipush 9, 2) := by decide +kernel
theorem dX16_addChoice_28 : decode cX16_addChoice 28 = .ok (.invokestatic 72, 3) := by decide +kernel
theorem dX16_addChoice_31 : decode cX16_addChoice 31 = .ok (.ifCond .ne 7, 3) := by decide +kernel
theorem dX16_addChoice_34 : decode cX16_addChoice 34 = .ok (.iconst 1, 1) := by decide +kernel
theorem dX16_addChoice_35 : decode cX16_addChoice 35 = .ok (.goto 4, 3) := by decide +kernel
theorem dX16_addChoice_38 : decode cX16_addChoice 38 = .ok (.iconst 0, 1) := by decide +kernel
theorem dX16_addChoice_39 : decode cX16_addChoice 39 = .ok (.istore 5, 2) := by decide +kernel
theorem dX16_addChoice_41 : decode cX16_addChoice 41 = .ok (.iload 5, 2) := by decide +kernel
theorem dX16_addChoice_43 : decode cX16_addChoice 43 = .ok (.ifCond .ne 29, 3) := by decide +kernel
theorem dX16_addChoice_46 : decode cX16_addChoice 46 = .ok (.iload 4, 2) := by decide +kernel
theorem dX16_addChoice_48 : decode cX16_addChoice 48 = .ok (.iconst (-1), 1) := by decide +kernel
theorem dX16_addChoice_49 : decode cX16_addChoice 49 = .ok (.if_icmp .eq 27, 3) := by decide +kernel
theorem dX16_addChoice_52 : decode cX16_addChoice 52 = .ok (.aload_n 0, 1) := by decide +kernel
theorem dX16_addChoice_53 : decode cX16_addChoice 53 = .ok (.iload 4, 2) := by decide +kernel
theorem dX16_addChoice_55 : decode cX16_addChoice 55 = .ok (.invokevirtual 106, 3) := by decide +kernel
theorem dX16_addChoice_58 : decode cX16_addChoice 58 = .ok (.ifCond .ne 14, 3) := by decide +kernel
theorem dX16_addChoice_61 : decode cX16_addChoice 61 = .ok (.aload_n 0, 1) := by decide +kernel
theorem dX16_addChoice_62 : decode cX16_addChoice 62 = .ok (.getfield 7, 3) := by decide +kernel
theorem dX16_addChoice_65 : decode cX16_addChoice 65 = .ok (.iload 4, 2) := by decide +kernel
theorem dX16_addChoice_67 : decode cX16_addChoice 67 = .ok (.iaload, 1) := by decide +kernel
theorem dX16_addChoice_68 : decode cX16_addChoice 68 = .ok (.iconst 1, 1) := by decide +kernel
theorem dX16_addChoice_69 : decode cX16_addChoice 69 = .ok (.if_icmp .eq 7, 3) := by decide +kernel
theorem dX16_addChoice_72 : decode cX16_addChoice 72 = .ok (.iconst 1, 1) := by decide +kernel
theorem dX16_addChoice_73 : decode cX16_addChoice 73 = .ok (.goto 4, 3) := by decide +kernel
theorem dX16_addChoice_76 : decode cX16_addChoice 76 = .ok (.iconst 0, 1) := by decide +kernel
theorem dX16_addChoice_77 : decode cX16_addChoice 77 = .ok (.istore 5, 2) := by decide +kernel
theorem dX16_addChoice_79 : decode cX16_addChoice 79 = .ok (.aload_n 0, 1) := by decide +kernel
theorem dX16_addChoice_80 : decode cX16_addChoice 80 = .ok (.iload 5, 2) := by decide +kernel
theorem dX16_addChoice_82 : decode cX16_addChoice 82 = .ok (.iconst 1, 1) := by decide +kernel
theorem dX16_addChoice_83 : decode cX16_addChoice 83 = .ok (.invokevirtual 87, 3) := by decide +kernel
theorem dX16_addChoice_86 : decode cX16_addChoice 86 = .ok (.ifCond .ne 28, 3) := by decide +kernel
theorem dX16_addChoice_89 : decode cX16_addChoice 89 = .ok (.aload_n 0, 1) := by decide +kernel
theorem dX16_addChoice_90 : decode cX16_addChoice 90 = .ok (.aload_n 0, 1) := by decide +kernel
theorem dX16_addChoice_91 : decode cX16_addChoice 91 = .ok (.getfield 16, 3) := by decide +kernel
theorem dX16_addChoice_94 : decode cX16_addChoice 94 = .ok (.invokevirtual 76, 3) := by decide +kernel
theorem dX16_addChoice_97 : decode cX16_addChoice 97 = .ok (.bipush 20, 2) := by decide +kernel
theorem dX16_addChoice_99 : decode cX16_addChoice 99 = .ok (.if_icmp .ne 7, 3) := by decide +kernel
theorem dX16_addChoice_102 : decode cX16_addChoice 102 = .ok (.iconst 1, 1) := by decide +kernel
theorem dX16_addChoice_103 : decode cX16_addChoice 103 = .ok (.goto 4, 3) := by decide +kernel
theorem dX16_addChoice_106 : decode cX16_addChoice 106 = .ok (.iconst 0, 1) := by decide +kernel
theorem dX16_addChoice_107 : decode cX16_addChoice 107 = .ok (.iconst 2, 1) := by decide +kernel
theorem dX16_addChoice_108 : decode cX16_addChoice 108 = .ok (.invokevirtual 87, 3) := by decide +kernel
theorem dX16_addChoice_111 : decode cX16_addChoice 111 = .ok (.ifCond .eq 5, 3) := by decide +kernel
theorem dX16_addChoice_114 : decode cX16_addChoice 114 = .ok (.iconst 0, 1) := by decide +kernel
theorem dX16_addChoice_115 : decode cX16_addChoice 115 = .ok (.ireturn, 1) := by decide +kernel
theorem dX16_addChoice_116 : decode cX16_addChoice 116 = .ok (.new 98, 3) := by decide +kernel
theorem dX16_addChoice_119 : decode cX16_addChoice 119 = .ok (.dup, 1) := by decide +kernel
theorem dX16_addChoice_120 : decode cX16_addChoice 120 = .ok (.bipush 99, 2) := by decide +kernel
theorem dX16_addChoice_122 : decode cX16_addChoice 122 = .ok (.iload_n 1, 1) := by decide +kernel
theorem dX16_addChoice_123 : decode cX16_addChoice 123 = .ok (.invokespecial 100, 3) := by decide +kernel
theorem dX16_addChoice_126 : decode cX16_addChoice 126 = .ok (.astore 6, 2) := by decide +kernel
theorem dX16_addChoice_128 : decode cX16_addChoice 128 = .ok (.aload 6, 2) := by decide +kernel
theorem dX16_addChoice_130 : decode cX16_addChoice 130 = .ok (.iload_n 2, 1) := by decide +kernel
theorem dX16_addChoice_131 : decode cX16_addChoice 131 = .ok (.putfield 110, 3) := by decide +kernel
theorem dX16_addChoice_134 : decode cX16_addChoice 134 = .ok (.aload 6, 2) := by decide +kernel
theorem dX16_addChoice_136 : decode cX16_addChoice 136 = .ok (.iload_n 3, 1) := by decide +kernel
theorem dX16_addChoice_137 : decode cX16_addChoice 137 = .ok (.putfield 113, 3) := by decide +kernel
theorem dX16_addChoice_140 : decode cX16_addChoice 140 = .ok (.aload 6, 2) := by decide +kernel
theorem dX16_addChoice_142 : decode cX16_addChoice 142 = .ok (.iload 4, 2) := by decide +kernel
theorem dX16_addChoice_144 : decode cX16_addChoice 144 = .ok (.putfield 116, 3) := by decide +kernel
theorem dX16_addChoice_147 : decode cX16_addChoice 147 = .ok (.aload_n 0, 1) := by decide +kernel
theorem dX16_addChoice_148 : decode cX16_addChoice 148 = .ok (.aload 6, 2) := by decide +kernel
theorem dX16_addChoice_150 : decode cX16_addChoice 150 = .ok (.invokevirtual 103, 3) := by decide +kernel
theorem dX16_addChoice_153 : decode cX16_addChoice 153 = .ok (.ireturn, 1) := by decide +kernel
theorem dX16_addWeak_0 : decode cX16_addWeak 0 = .ok (.aload_n 0, 1) := by decide +kernel
theorem dX16_addWeak_1 : decode cX16_addWeak 1 = .ok (.iconst 0, 1) := by decide +kernel
theorem dX16_addWeak_2 : decode cX16_addWeak 2 = .ok (.putfield 65, 3) := by decide +kernel
theorem dX16_addWeak_5 : decode cX16_addWeak 5 = .ok (.aload_n 0, 1) := by decide +kernel
theorem dX16_addWeak_6 : decode cX16_addWeak 6 = .ok (.iload_n 1, 1) := by decide +kernel
theorem dX16_addWeak_7 : decode cX16_addWeak 7 = .ok (.iconst 0, 1) := by decide +kernel
theorem dX16_addWeak_8 : decode cX16_addWeak 8 = .ok (.iconst 3, 1) := by decide +kernel
theorem dX16_addWeak_9 : decode cX16_addWeak 9 = .ok (.invokestatic 72, 3) := by decide +kernel
theorem dX16_addWeak_12 : decode cX16_addWeak 12 = .ok (.ifCond .eq 23, 3) := by decide +kernel
theorem dX16_addWeak_15 : decode cX16_addWeak 15 = .ok (.iload_n 2, 1) := by decide +kernel
theorem dX16_addWeak_16 : decode cX16_addWeak 16 = .ok (.bipush (-99), 2) := by decide +kernel
theorem dX16_addWeak_18 : decode cX16_addWeak 18 = .ok (.bipush 99, 2) := by decide +kernel
theorem dX16_addWeak_20 : decode cX16_addWeak 20 = .ok (.invokestatic 72, 3) := by decide +kernel
theorem dX16_addWeak_23 : decode cX16_addWeak 23 = .ok (.ifCond .eq 12, 3) := by decide +kernel
theorem dX16_addWeak_26 : decode cX16_addWeak 26 = .ok (.iload_n 3, 1) := by decide +kernel
theorem dX16_addWeak_27 : decode cX16_addWeak 27 = .ok (.iconst 1, 1) := by decide +kernel
theorem dX16_addWeak_28 : decode cX16_addWeak 28 = .ok (.iconst 3, 1) := by decide +kernel
theorem dX16_addWeak_29 : decode cX16_addWeak 29 = .ok (.invokestatic 72, 3) := by decide +kernel
theorem dX16_addWeak_32 : decode cX16_addWeak 32 = .ok (.ifCond .ne 7, 3) := by decide +kernel
theorem dX16_addWeak_35 : decode cX16_addWeak 35 = .ok (.iconst 1, 1) := by decide +kernel
theorem dX16_addWeak_36 : decode cX16_addWeak 36 = .ok (.goto 4, 3) := by decide +kernel
theorem dX16_addWeak_39 : decode cX16_addWeak 39 = .ok (.iconst 0, 1) := by decide +kernel
theorem dX16_addWeak_40 : decode cX16_addWeak 40 = .ok (.iconst 1, 1) := by decide +kernel
theorem dX16_addWeak_41 : decode cX16_addWeak 41 = .ok (.invokevirtual 87, 3) := by decide +kernel
theorem dX16_addWeak_44 : decode cX16_addWeak 44 = .ok (.ifCond .ne 28, 3) := by decide +kernel
theorem dX16_addWeak_47 : decode cX16_addWeak 47 = .ok (.aload_n 0, 1) := by decide +kernel
theorem dX16_addWeak_48 : decode cX16_addWeak 48 = .ok (.aload_n 0, 1) := by decide +kernel
theorem dX16_addWeak_49 : decode cX16_addWeak 49 = .ok (.getfield 16, 3) := by decide +kernel
theorem dX16_addWeak_52 : decode cX16_addWeak 52 = .ok (.invokevirtual 76, 3) := by decide +kernel
theorem dX16_addWeak_55 : decode cX16_addWeak 55 = .ok (.bipush 20, 2) := by decide +kernel
theorem dX16_addWeak_57 : decode cX16_addWeak 57 = .ok (.if_icmp .ne 7, 3) := by decide +kernel
theorem dX16_addWeak_60 : decode cX16_addWeak 60 = .ok (.iconst 1, 1) := by decide +kernel
theorem dX16_addWeak_61 : decode cX16_addWeak 61 = .ok (.goto 4, 3) := by decide +kernel
theorem dX16_addWeak_64 : decode cX16_addWeak 64 = .ok (.iconst 0, 1) := by decide +kernel
theorem dX16_addWeak_65 : decode cX16_addWeak 65 = .ok (.iconst 2, 1) := by decide +kernel
theorem dX16_addWeak_66 : decode cX16_addWeak 66 = .ok (.invokevirtual 87, 3) := by decide +kernel
theorem dX16_addWeak_69 : decode cX16_addWeak 69 = .ok (.ifCond .eq 5, 3) := by decide +kernel
theorem dX16_addWeak_72 : decode cX16_addWeak 72 = .ok (.iconst 0, 1) := by decide +kernel
theorem dX16_addWeak_73 : decode cX16_addWeak 73 = .ok (.ireturn, 1) := by decide +kernel
theorem dX16_addWeak_74 : decode cX16_addWeak 74 = .ok (.new 98, 3) := by decide +kernel
theorem dX16_addWeak_77 : decode cX16_addWeak 77 = .ok (.dup, 1) := by decide +kernel
theorem dX16_addWeak_78 : decode cX16_addWeak 78 = .ok (.bipush 119, 2) := by decide +kernel
theorem dX16_addWeak_80 : decode cX16_addWeak 80 = .ok (.iload_n 1, 1) := by decide +kernel
theorem dX16_addWeak_81 : decode cX16_addWeak 81 = .ok (.invokespecial 100, 3) := by decide +kernel
theorem dX16_addWeak_84 : decode cX16_addWeak 84 = .ok (.astore 4, 2) := by decide +kernel
theorem dX16_addWeak_86 : decode cX16_addWeak 86 = .ok (.aload 4, 2) := by decide +kernel
theorem dX16_addWeak_88 : decode cX16_addWeak 88 = .ok (.iload_n 2, 1) := by decide +kernel
theorem dX16_addWeak_89 : decode cX16_addWeak 89 = .ok (.putfield 119, 3) := by decide +kernel
theorem dX16_addWeak_92 : decode cX16_addWeak 92 = .ok (.aload 4, 2) := by decide +kernel
theorem dX16_addWeak_94 : decode cX16_addWeak 94 = .ok (.iload_n 3, 1) := by decide +kernel
theorem dX16_addWeak_95 : decode cX16_addWeak 95 = .ok (.putfield 122, 3) := by decide +kernel
theorem dX16_addWeak_98 : decode cX16_addWeak 98 = .ok (.aload_n 0, 1) := by decide +kernel
theorem dX16_addWeak_99 : decode cX16_addWeak 99 = .ok (.aload 4, 2) := by decide +kernel
theorem dX16_addWeak_101 : decode cX16_addWeak 101 = .ok (.invokevirtual 103, 3) := by decide +kernel
theorem dX16_addWeak_104 : decode cX16_addWeak 104 = .ok (.ireturn, 1) := by decide +kernel
theorem dX16_ground_0 : decode cX16_ground 0 = .ok (.aload_n 0, 1) := by decide +kernel
theorem dX16_ground_1 : decode cX16_ground 1 = .ok (.iconst 0, 1) := by decide +kernel
theorem dX16_ground_2 : decode cX16_ground 2 = .ok (.putfield 65, 3) := by decide +kernel
theorem dX16_ground_5 : decode cX16_ground 5 = .ok (.aload_n 0, 1) := by decide +kernel
theorem dX16_ground_6 : decode cX16_ground 6 = .ok (.iload_n 1, 1) := by decide +kernel
theorem dX16_ground_7 : decode cX16_ground 7 = .ok (.iconst 1, 1) := by decide +kernel
theorem dX16_ground_8 : decode cX16_ground 8 = .ok (.iconst 3, 1) := by decide +kernel
theorem dX16_ground_9 : decode cX16_ground 9 = .ok (.invokestatic 72, 3) := by decide +kernel
theorem dX16_ground_12 : decode cX16_ground 12 = .ok (.ifCond .eq 13, 3) := by decide +kernel
theorem dX16_ground_15 : decode cX16_ground 15 = .ok (.iload_n 2, 1) := by decide +kernel
theorem dX16_ground_16 : decode cX16_ground 16 = .ok (.iconst 0, 1) := by decide +kernel
theorem dX16_ground_17 : decode cX16_ground 17 = .ok (.bipush 7, 2) := by decide +kernel
theorem dX16_ground_19 : decode cX16_ground 19 = .ok (.invokestatic 72, 3) := by decide +kernel
theorem dX16_ground_22 : decode cX16_ground 22 = .ok (.ifCond .ne 7, 3) := by decide +kernel
theorem dX16_ground_25 : decode cX16_ground 25 = .ok (.iconst 1, 1) := by decide +kernel
theorem dX16_ground_26 : decode cX16_ground 26 = .ok (.goto 4, 3) := by decide +kernel
theorem dX16_ground_29 : decode cX16_ground 29 = .ok (.iconst 0, 1) := by decide +kernel
theorem dX16_ground_30 : decode cX16_ground 30 = .ok (.iconst 1, 1) := by decide +kernel
theorem dX16_ground_31 : decode cX16_ground 31 = .ok (.invokevirtual 87, 3) := by decide +kernel
theorem dX16_ground_34 : decode cX16_ground 34 = .ok (.ifCond .eq 5, 3) := by decide +kernel
theorem dX16_ground_37 : decode cX16_ground 37 = .ok (.iconst 0, 1) := by decide +kernel
theorem dX16_ground_38 : decode cX16_ground 38 = .ok (.ireturn, 1) := by decide +kernel
theorem dX16_ground_39 : decode cX16_ground 39 = .ok (.iconst 0, 1) := by decide +kernel
theorem dX16_ground_40 : decode cX16_ground 40 = .ok (.istore_n 3, 1) := by decide +kernel
theorem dX16_ground_41 : decode cX16_ground 41 = .ok (.aload_n 0, 1) := by decide +kernel
theorem dX16_ground_42 : decode cX16_ground 42 = .ok (.getfield 20, 3) := by decide +kernel
theorem dX16_ground_45 : decode cX16_ground 45 = .ok (.invokevirtual 167, 3) := by decide +kernel
theorem dX16_ground_48 : decode cX16_ground 48 = .ok (.astore 4, 2) := by decide +kernel
theorem dX16_ground_50 : decode cX16_ground 50 = .ok (.aload 4, 2) := by decide +kernel
theorem dX16_ground_52 : decode cX16_ground 52 = .ok (.invokeinterface 171 1, 5) := by decide +kernel
theorem dX16_ground_57 : decode cX16_ground 57 = .ok (.ifCond .eq 44, 3) := by decide +kernel
theorem dX16_ground_60 : decode cX16_ground 60 = .ok (.aload 4, 2) := by decide +kernel
theorem dX16_ground_62 : decode cX16_ground 62 = .ok (.invokeinterface 177 1, 5) := by decide +kernel
theorem dX16_ground_67 : decode cX16_ground 67 = .ok (.checkcast 181, 3) := by decide +kernel
theorem dX16_ground_70 : decode cX16_ground 70 = .ok (.astore 5, 2) := by decide +kernel
theorem dX16_ground_72 : decode cX16_ground 72 = .ok (.iload_n 3, 1) := by decide +kernel
theorem dX16_ground_73 : decode cX16_ground 73 = .ok (.ifCond .ne 19, 3) := by decide +kernel
theorem dX16_ground_76 : decode cX16_ground 76 = .ok (.aload 5, 2) := by decide +kernel
theorem dX16_ground_78 : decode cX16_ground 78 = .ok (.iconst 0, 1) := by decide +kernel
theorem dX16_ground_79 : decode cX16_ground 79 = .ok (.iaload, 1) := by decide +kernel
theorem dX16_ground_80 : decode cX16_ground 80 = .ok (.iload_n 1, 1) := by decide +kernel
theorem dX16_ground_81 : decode cX16_ground 81 = .ok (.if_icmp .ne 15, 3) := by decide +kernel
theorem dX16_ground_84 : decode cX16_ground 84 = .ok (.aload 5, 2) := by decide +kernel
theorem dX16_ground_86 : decode cX16_ground 86 = .ok (.iconst 1, 1) := by decide +kernel
theorem dX16_ground_87 : decode cX16_ground 87 = .ok (.iaload, 1) := by decide +kernel
theorem dX16_ground_88 : decode cX16_ground 88 = .ok (.iload_n 2, 1) := by decide +kernel
theorem dX16_ground_89 : decode cX16_ground 89 = .ok (.if_icmp .ne 7, 3) := by decide +kernel
theorem dX16_ground_92 : decode cX16_ground 92 = .ok (.iconst 1, 1) := by decide +kernel
theorem dX16_ground_93 : decode cX16_ground 93 = .ok (.goto 4, 3) := by decide +kernel
theorem dX16_ground_96 : decode cX16_ground 96 = .ok (.iconst 0, 1) := by decide +kernel
theorem dX16_ground_97 : decode cX16_ground 97 = .ok (.istore_n 3, 1) := by decide +kernel
theorem dX16_ground_98 : decode cX16_ground 98 = .ok (.goto (-48), 3) := by decide +kernel
theorem dX16_ground_101 : decode cX16_ground 101 = .ok (.aload_n 0, 1) := by decide +kernel
theorem dX16_ground_102 : decode cX16_ground 102 = .ok (.iload_n 3, 1) := by decide +kernel
theorem dX16_ground_103 : decode cX16_ground 103 = .ok (.ifCond .ne 15, 3) := by decide +kernel
theorem dX16_ground_106 : decode cX16_ground 106 = .ok (.aload_n 0, 1) := by decide +kernel
theorem dX16_ground_107 : decode cX16_ground 107 = .ok (.getfield 20, 3) := by decide +kernel
theorem dX16_ground_110 : decode cX16_ground 110 = .ok (.invokevirtual 76, 3) := by decide +kernel
theorem dX16_ground_113 : decode cX16_ground 113 = .ok (.bipush 6, 2) := by decide +kernel
theorem dX16_ground_115 : decode cX16_ground 115 = .ok (.if_icmp .ne 7, 3) := by decide +kernel
theorem dX16_ground_118 : decode cX16_ground 118 = .ok (.iconst 1, 1) := by decide +kernel
theorem dX16_ground_119 : decode cX16_ground 119 = .ok (.goto 4, 3) := by decide +kernel
theorem dX16_ground_122 : decode cX16_ground 122 = .ok (.iconst 0, 1) := by decide +kernel
theorem dX16_ground_123 : decode cX16_ground 123 = .ok (.iconst 2, 1) := by decide +kernel
theorem dX16_ground_124 : decode cX16_ground 124 = .ok (.invokevirtual 87, 3) := by decide +kernel
theorem dX16_ground_127 : decode cX16_ground 127 = .ok (.ifCond .eq 5, 3) := by decide +kernel
theorem dX16_ground_130 : decode cX16_ground 130 = .ok (.iconst 0, 1) := by decide +kernel
theorem dX16_ground_131 : decode cX16_ground 131 = .ok (.ireturn, 1) := by decide +kernel
theorem dX16_ground_132 : decode cX16_ground 132 = .ok (.iconst 2, 1) := by decide +kernel
theorem dX16_ground_133 : decode cX16_ground 133 = .ok (.newarray .int, 2) := by decide +kernel
theorem dX16_ground_135 : decode cX16_ground 135 = .ok (.dup, 1) := by decide +kernel
theorem dX16_ground_136 : decode cX16_ground 136 = .ok (.iconst 0, 1) := by decide +kernel
theorem dX16_ground_137 : decode cX16_ground 137 = .ok (.iload_n 1, 1) := by decide +kernel
theorem dX16_ground_138 : decode cX16_ground 138 = .ok (.iastore, 1) := by decide +kernel
theorem dX16_ground_139 : decode cX16_ground 139 = .ok (.dup, 1) := by decide +kernel
theorem dX16_ground_140 : decode cX16_ground 140 = .ok (.iconst 1, 1) := by decide +kernel
theorem dX16_ground_141 : decode cX16_ground 141 = .ok (.iload_n 2, 1) := by decide +kernel
theorem dX16_ground_142 : decode cX16_ground 142 = .ok (.iastore, 1) := by decide +kernel
theorem dX16_ground_143 : decode cX16_ground 143 = .ok (.astore 4, 2) := by decide +kernel
theorem dX16_ground_145 : decode cX16_ground 145 = .ok (.aload_n 0, 1) := by decide +kernel
theorem dX16_ground_146 : decode cX16_ground 146 = .ok (.getfield 20, 3) := by decide +kernel
theorem dX16_ground_149 : decode cX16_ground 149 = .ok (.aload 4, 2) := by decide +kernel
theorem dX16_ground_151 : decode cX16_ground 151 = .ok (.invokevirtual 94, 3) := by decide +kernel
theorem dX16_ground_154 : decode cX16_ground 154 = .ok (.pop, 1) := by decide +kernel
theorem dX16_ground_155 : decode cX16_ground 155 = .ok (.aload_n 0, 1) := by decide +kernel
theorem dX16_ground_156 : decode cX16_ground 156 = .ok (.invokevirtual 91, 3) := by decide +kernel
theorem dX16_ground_159 : decode cX16_ground 159 = .ok (.aload_n 0, 1) := by decide +kernel
theorem dX16_ground_160 : decode cX16_ground 160 = .ok (.getfield 20, 3) := by decide +kernel
theorem dX16_ground_163 : decode cX16_ground 163 = .ok (.invokevirtual 76, 3) := by decide +kernel
theorem dX16_ground_166 : decode cX16_ground 166 = .ok (.ireturn, 1) := by decide +kernel
theorem dJx35411_init_45d68_0 : decode cJx35411_init_45d68 0 = .ok (.aload_n 0, 1) := by decide +kernel
theorem dJx35411_init_45d68_1 : decode cJx35411_init_45d68 1 = .ok (.aload_n 1, 1) := by decide +kernel
theorem dJx35411_init_45d68_2 : decode cJx35411_init_45d68 2 = .ok (.putfield 1, 3) := by decide +kernel
theorem dJx35411_init_45d68_5 : decode cJx35411_init_45d68 5 = .ok (.aload_n 0, 1) := by decide +kernel
theorem dJx35411_init_45d68_6 : decode cJx35411_init_45d68 6 = .ok (.invokespecial 7, 3) := by decide +kernel
theorem dJx35411_init_45d68_9 : decode cJx35411_init_45d68 9 = .ok (.aload_n 0, 1) := by decide +kernel
theorem dJx35411_init_45d68_10 : decode cJx35411_init_45d68 10 = .ok (.iconst (-1), 1) := by decide +kernel
theorem dJx35411_init_45d68_11 : decode cJx35411_init_45d68 11 = .ok (.putfield 13, 3) := by decide +kernel
theorem dJx35411_init_45d68_14 : decode cJx35411_init_45d68 14 = .ok (.aload_n 0, 1) := by decide +kernel
theorem dJx35411_init_45d68_15 : decode cJx35411_init_45d68 15 = .ok (.aload_n 0, 1) := by decide +kernel
theorem dJx35411_init_45d68_16 : decode cJx35411_init_45d68 16 = .ok (.getfield 1, 3) := by decide +kernel
theorem dJx35411_init_45d68_19 : decode cJx35411_init_45d68 19 = .ok (.getfield 17, 3) := by decide +kernel
theorem dJx35411_init_45d68_22 : decode cJx35411_init_45d68 22 = .ok (.putfield 22, 3) := by decide +kernel
theorem dJx35411_init_45d68_25 : decode cJx35411_init_45d68 25 = .ok (.return_, 1) := by decide +kernel
theorem dJx35411_hasNext_aae02_0 : decode cJx35411_hasNext_aae02 0 = .ok (.aload_n 0, 1) := by decide +kernel
theorem dJx35411_hasNext_aae02_1 : decode cJx35411_hasNext_aae02 1 = .ok (.getfield 25, 3) := by decide +kernel
theorem dJx35411_hasNext_aae02_4 : decode cJx35411_hasNext_aae02 4 = .ok (.aload_n 0, 1) := by decide +kernel
theorem dJx35411_hasNext_aae02_5 : decode cJx35411_hasNext_aae02 5 = .ok (.getfield 1, 3) := by decide +kernel
theorem dJx35411_hasNext_aae02_8 : decode cJx35411_hasNext_aae02 8 = .ok (.getfield 28, 3) := by decide +kernel
theorem dJx35411_hasNext_aae02_11 : decode cJx35411_hasNext_aae02 11 = .ok (.if_icmp .eq 7, 3) := by decide +kernel
theorem dJx35411_hasNext_aae02_14 : decode cJx35411_hasNext_aae02 14 = .ok (.iconst 1, 1) := by decide +kernel
theorem dJx35411_hasNext_aae02_15 : decode cJx35411_hasNext_aae02 15 = .ok (.goto 4, 3) := by decide +kernel
theorem dJx35411_hasNext_aae02_18 : decode cJx35411_hasNext_aae02 18 = .ok (.iconst 0, 1) := by decide +kernel
theorem dJx35411_hasNext_aae02_19 : decode cJx35411_hasNext_aae02 19 = .ok (.ireturn, 1) := by decide +kernel
theorem dJx4a65c_grow_92f84_0 : decode cJx4a65c_grow_92f84 0 = .ok (.aload_n 0, 1) := by decide +kernel
theorem dJx4a65c_grow_92f84_1 : decode cJx4a65c_grow_92f84 1 = .ok (.getfield 9, 3) := by decide +kernel
theorem dJx4a65c_grow_92f84_4 : decode cJx4a65c_grow_92f84 4 = .ok (.arraylength, 1) := by decide +kernel
theorem dJx4a65c_grow_92f84_5 : decode cJx4a65c_grow_92f84 5 = .ok (.istore_n 2, 1) := by decide +kernel
theorem dJx4a65c_grow_92f84_6 : decode cJx4a65c_grow_92f84 6 = .ok (.iload_n 2, 1) := by decide +kernel
theorem dJx4a65c_grow_92f84_7 : decode cJx4a65c_grow_92f84 7 = .ok (.ifCond .gt 13, 3) := by decide +kernel
theorem dJx4a65c_grow_92f84_10 : decode cJx4a65c_grow_92f84 10 = .ok (.aload_n 0, 1) := by decide +kernel
theorem dJx4a65c_grow_92f84_11 : decode cJx4a65c_grow_92f84 11 = .ok (.getfield 9, 3) := by decide +kernel
theorem dJx4a65c_grow_92f84_14 : decode cJx4a65c_grow_92f84 14 = .ok (.getstatic 39, 3) := by decide +kernel
theorem dJx4a65c_grow_92f84_17 : decode cJx4a65c_grow_92f84 17 = .ok (.if_acmp .eq 28, 3) := by decide +kernel
theorem dJx4a65c_grow_92f84_20 : decode cJx4a65c_grow_92f84 20 = .ok (.iload_n 2, 1) := by decide +kernel
theorem dJx4a65c_grow_92f84_21 : decode cJx4a65c_grow_92f84 21 = .ok (.iload_n 1, 1) := by decide +kernel
theorem dJx4a65c_grow_92f84_22 : decode cJx4a65c_grow_92f84 22 = .ok (.iload_n 2, 1) := by decide +kernel
theorem dJx4a65c_grow_92f84_23 : decode cJx4a65c_grow_92f84 23 = .ok (.isub, 1) := by decide +kernel
theorem dJx4a65c_grow_92f84_24 : decode cJx4a65c_grow_92f84 24 = .ok (.iload_n 2, 1) := by decide +kernel
theorem dJx4a65c_grow_92f84_25 : decode cJx4a65c_grow_92f84 25 = .ok (.iconst 1, 1) := by decide +kernel
theorem dJx4a65c_grow_92f84_26 : decode cJx4a65c_grow_92f84 26 = .ok (.ishr, 1) := by decide +kernel
theorem dJx4a65c_grow_92f84_27 : decode cJx4a65c_grow_92f84 27 = .ok (.invokestatic 73, 3) := by decide +kernel
theorem dJx4a65c_grow_92f84_30 : decode cJx4a65c_grow_92f84 30 = .ok (.istore_n 3, 1) := by decide +kernel
theorem dJx4a65c_grow_92f84_31 : decode cJx4a65c_grow_92f84 31 = .ok (.aload_n 0, 1) := by decide +kernel
theorem dJx4a65c_grow_92f84_32 : decode cJx4a65c_grow_92f84 32 = .ok (.aload_n 0, 1) := by decide +kernel
theorem dJx4a65c_grow_92f84_33 : decode cJx4a65c_grow_92f84 33 = .ok (.getfield 9, 3) := by decide +kernel
theorem dJx4a65c_grow_92f84_36 : decode cJx4a65c_grow_92f84 36 = .ok (.iload_n 3, 1) := by decide +kernel
theorem dJx4a65c_grow_92f84_37 : decode cJx4a65c_grow_92f84 37 = .ok (.invokestatic 66, 3) := by decide +kernel
theorem dJx4a65c_grow_92f84_40 : decode cJx4a65c_grow_92f84 40 = .ok (.dup_x1, 1) := by decide +kernel
theorem dJx4a65c_grow_92f84_41 : decode cJx4a65c_grow_92f84 41 = .ok (.putfield 9, 3) := by decide +kernel
theorem dJx4a65c_grow_92f84_44 : decode cJx4a65c_grow_92f84 44 = .ok (.areturn, 1) := by decide +kernel
theorem dJx4a65c_grow_92f84_45 : decode cJx4a65c_grow_92f84 45 = .ok (.aload_n 0, 1) := by decide +kernel
theorem dJx4a65c_grow_92f84_46 : decode cJx4a65c_grow_92f84 46 = .ok (.bipush 10, 2) := by decide +kernel
theorem dJx4a65c_grow_92f84_48 : decode cJx4a65c_grow_92f84 48 = .ok (.iload_n 1, 1) := by decide +kernel
theorem dJx4a65c_grow_92f84_49 : decode cJx4a65c_grow_92f84 49 = .ok (.invokestatic 79, 3) := by decide +kernel
theorem dJx4a65c_grow_92f84_52 : decode cJx4a65c_grow_92f84 52 = .ok (.anewarray 7, 3) := by decide +kernel
theorem dJx4a65c_grow_92f84_55 : decode cJx4a65c_grow_92f84 55 = .ok (.dup_x1, 1) := by decide +kernel
theorem dJx4a65c_grow_92f84_56 : decode cJx4a65c_grow_92f84 56 = .ok (.putfield 9, 3) := by decide +kernel
theorem dJx4a65c_grow_92f84_59 : decode cJx4a65c_grow_92f84 59 = .ok (.areturn, 1) := by decide +kernel
theorem dJx4a65c_grow_d5877_0 : decode cJx4a65c_grow_d5877 0 = .ok (.aload_n 0, 1) := by decide +kernel
theorem dJx4a65c_grow_d5877_1 : decode cJx4a65c_grow_d5877 1 = .ok (.aload_n 0, 1) := by decide +kernel
theorem dJx4a65c_grow_d5877_2 : decode cJx4a65c_grow_d5877 2 = .ok (.getfield 48, 3) := by decide +kernel
theorem dJx4a65c_grow_d5877_5 : decode cJx4a65c_grow_d5877 5 = .ok (.iconst 1, 1) := by decide +kernel
theorem dJx4a65c_grow_d5877_6 : decode cJx4a65c_grow_d5877 6 = .ok (.iadd, 1) := by decide +kernel
theorem dJx4a65c_grow_d5877_7 : decode cJx4a65c_grow_d5877 7 = .ok (.invokevirtual 69, 3) := by decide +kernel
theorem dJx4a65c_grow_d5877_10 : decode cJx4a65c_grow_d5877 10 = .ok (.areturn, 1) := by decide +kernel
theorem dJx4a65c_add_72be8_0 : decode cJx4a65c_add_72be8 0 = .ok (.iload_n 3, 1) := by decide +kernel
theorem dJx4a65c_add_72be8_1 : decode cJx4a65c_add_72be8 1 = .ok (.aload_n 2, 1) := by decide +kernel
theorem dJx4a65c_add_72be8_2 : decode cJx4a65c_add_72be8 2 = .ok (.arraylength, 1) := by decide +kernel
theorem dJx4a65c_add_72be8_3 : decode cJx4a65c_add_72be8 3 = .ok (.if_icmp .ne 8, 3) := by decide +kernel
theorem dJx4a65c_add_72be8_6 : decode cJx4a65c_add_72be8 6 = .ok (.aload_n 0, 1) := by decide +kernel
theorem dJx4a65c_add_72be8_7 : decode cJx4a65c_add_72be8 7 = .ok (.invokevirtual 129, 3) := by decide +kernel
theorem dJx4a65c_add_72be8_10 : decode cJx4a65c_add_72be8 10 = .ok (.astore_n 2, 1) := by decide +kernel
theorem dJx4a65c_add_72be8_11 : decode cJx4a65c_add_72be8 11 = .ok (.aload_n 2, 1) := by decide +kernel
theorem dJx4a65c_add_72be8_12 : decode cJx4a65c_add_72be8 12 = .ok (.iload_n 3, 1) := by decide +kernel
theorem dJx4a65c_add_72be8_13 : decode cJx4a65c_add_72be8 13 = .ok (.aload_n 1, 1) := by decide +kernel
theorem dJx4a65c_add_72be8_14 : decode cJx4a65c_add_72be8 14 = .ok (.aastore, 1) := by decide +kernel
theorem dJx4a65c_add_72be8_15 : decode cJx4a65c_add_72be8 15 = .ok (.aload_n 0, 1) := by decide +kernel
theorem dJx4a65c_add_72be8_16 : decode cJx4a65c_add_72be8 16 = .ok (.iload_n 3, 1) := by decide +kernel
theorem dJx4a65c_add_72be8_17 : decode cJx4a65c_add_72be8 17 = .ok (.iconst 1, 1) := by decide +kernel
theorem dJx4a65c_add_72be8_18 : decode cJx4a65c_add_72be8 18 = .ok (.iadd, 1) := by decide +kernel
theorem dJx4a65c_add_72be8_19 : decode cJx4a65c_add_72be8 19 = .ok (.putfield 48, 3) := by decide +kernel
theorem dJx4a65c_add_72be8_22 : decode cJx4a65c_add_72be8 22 = .ok (.return_, 1) := by decide +kernel
theorem dJx4a65c_add_9ea2d_0 : decode cJx4a65c_add_9ea2d 0 = .ok (.aload_n 0, 1) := by decide +kernel
theorem dJx4a65c_add_9ea2d_1 : decode cJx4a65c_add_9ea2d 1 = .ok (.dup, 1) := by decide +kernel
theorem dJx4a65c_add_9ea2d_2 : decode cJx4a65c_add_9ea2d 2 = .ok (.getfield 63, 3) := by decide +kernel
theorem dJx4a65c_add_9ea2d_5 : decode cJx4a65c_add_9ea2d 5 = .ok (.iconst 1, 1) := by decide +kernel
theorem dJx4a65c_add_9ea2d_6 : decode cJx4a65c_add_9ea2d 6 = .ok (.iadd, 1) := by decide +kernel
theorem dJx4a65c_add_9ea2d_7 : decode cJx4a65c_add_9ea2d 7 = .ok (.putfield 63, 3) := by decide +kernel
theorem dJx4a65c_add_9ea2d_10 : decode cJx4a65c_add_9ea2d 10 = .ok (.aload_n 0, 1) := by decide +kernel
theorem dJx4a65c_add_9ea2d_11 : decode cJx4a65c_add_9ea2d 11 = .ok (.aload_n 1, 1) := by decide +kernel
theorem dJx4a65c_add_9ea2d_12 : decode cJx4a65c_add_9ea2d 12 = .ok (.aload_n 0, 1) := by decide +kernel
theorem dJx4a65c_add_9ea2d_13 : decode cJx4a65c_add_9ea2d 13 = .ok (.getfield 9, 3) := by decide +kernel
theorem dJx4a65c_add_9ea2d_16 : decode cJx4a65c_add_9ea2d 16 = .ok (.aload_n 0, 1) := by decide +kernel
theorem dJx4a65c_add_9ea2d_17 : decode cJx4a65c_add_9ea2d 17 = .ok (.getfield 48, 3) := by decide +kernel
theorem dJx4a65c_add_9ea2d_20 : decode cJx4a65c_add_9ea2d 20 = .ok (.invokevirtual 131, 3) := by decide +kernel
theorem dJx4a65c_add_9ea2d_23 : decode cJx4a65c_add_9ea2d 23 = .ok (.iconst 1, 1) := by decide +kernel
theorem dJx4a65c_add_9ea2d_24 : decode cJx4a65c_add_9ea2d 24 = .ok (.ireturn, 1) := by decide +kernel
theorem dJx4a65c_iterator_32c93_0 : decode cJx4a65c_iterator_32c93 0 = .ok (.new 267, 3) := by decide +kernel
theorem dJx4a65c_iterator_32c93_3 : decode cJx4a65c_iterator_32c93 3 = .ok (.dup, 1) := by decide +kernel
theorem dJx4a65c_iterator_32c93_4 : decode cJx4a65c_iterator_32c93 4 = .ok (.aload_n 0, 1) := by decide +kernel
theorem dJx4a65c_iterator_32c93_5 : decode cJx4a65c_iterator_32c93 5 = .ok (.invokespecial 269, 3) := by decide +kernel
theorem dJx4a65c_iterator_32c93_8 : decode cJx4a65c_iterator_32c93 8 = .ok (.areturn, 1) := by decide +kernel
def vs_k_growI : List Cond := .code yJx4a65c_grow_92f84 cJx4a65c_grow_92f84 4 (some (.array (.object "java/lang/Object"))) :: ([.fieldLink RJx4a65c 9 "java/util/ArrayList" "elementData" "[Ljava/lang/Object;", .fieldLink RJx4a65c 39 "java/util/ArrayList" "DEFAULTCAPACITY_EMPTY_ELEMENTDATA" "[Ljava/lang/Object;", .methodLink RJx4a65c 79 Lib.Math.max.name, .static Lib.Math.max.name, .initialized "java/lang/Math", .code Lib.Math.max.name Lib.Math.max.code 2 (some .int), .classLink RJx4a65c 7 "java/lang/Object"] ++ (u_ws RJx4a65c TJx4a65c 3))
theorem iv_k_growI_Jx4a65c : ∀ w ∈ u_ws RJx4a65c TJx4a65c 3, w ∈ vs_k_growI := (fun _ h => List.mem_cons_of_mem _ (List.mem_append_right _ (h)))
set_option maxHeartbeats 4000000 in
set_option maxRecDepth 100000 in
theorem k_growI (l : Launch) (D : va_G) (ty : Nat → ClassId) (td mi sz : Nat) (h0 : Nat) (k9 : Int32) : Met l yJx4a65c_grow_92f84 vs_k_growI { frames := 1, cells := 1, slots := 10, locals := 14 } (va_Pc [.ref h0, .int 1] (wq_P D ty td mi [(h0, .inr (4, [.int k9, .ref td, .int 0]))] sz)) (wq_Qr (fun (r : Value) (u : va_W) => (∃ (q109 : Nat), r = .ref q109 ∧ (u = [(h0, .inr (4, [.int k9, .ref q109, .int 0])), (q109, .inl (ty 6, 10, .inr (.inr (.inr (.inr (fun _ => none))))))]))) (wq_B D (va_A [(h0, .inr (4, [.int k9, .ref td, .int 0]))] sz)) (va_A [(h0, .inr (4, [.int k9, .ref td, .int 0]))] sz)) 1 10 (va_A [(h0, .inr (4, [.int k9, .ref td, .int 0]))] sz) := by
  refine Met.ofW (cc := cJx4a65c_grow_92f84) (maxL := 4) (ret := (some (.array (.object "java/lang/Object")))) (by decide) rfl ?_
  intro p e s m args below meth c s₁ B hml hv
  obtain ⟨rfl, hsz, hP, hK, hD0, hE⟩ := hv
  have hx := B.exec
  have hb := B.bytes
  have hr := B.returns
  have hts := atoms_spec (ws := vs_k_growI) B.pre
  have hown : s.vm.findClass RJx4a65c = some m.cls := findClass_of_methodNamed B.named
  have hlocks := B.notSynchronized
  subst hsz
  have hD := hD0.self (sz := s.heap.size)
  generalize hAe : va_A [(h0, .inr (4, [.int k9, .ref td, .int 0]))] s.heap.size = A at hD hE ⊢
  have hA : ∀ q : Nat, s.heap.size ≤ q → A q := fun q h => by rw [← hAe]; exact Or.inr h
  have hS : va_S A s.heap s.heap [] := va_S.rf
  have hP : va_P D vwCl [(h0, .inr (4, [.int k9, .ref td, .int 0]))] s.heap := hP
  have hl := lv_entry ([.ref h0, .int 1]) (n := 4) (Nat.le_of_ble_eq_true rfl)
  rw [lg_entry_eq]
  generalize (lg_sl ([.ref h0, .int 1]) ++ List.replicate (4 - (lg_sl ([.ref h0, .int 1])).length) Slot.unset).toArray = ls at hl ⊢
  have hl : lv_has ls 4 [(0, .ref h0), (1, .int 1)] := hl
  refine lv_aload_n hx hb dJx4a65c_grow_92f84_0 rfl (lv_at hl 0 rfl) ?_
  refine va_get (D := D) (ci := 4) (v := .ref td) (C := RJx4a65c) (T := TJx4a65c) (N := 3) hx hb hts iv_k_growI_Jx4a65c hown hK hP 0 rfl rfl 1 (by decide) (hts (.fieldLink RJx4a65c 9 "java/util/ArrayList" "elementData" "[Ljava/lang/Object;") (by decide +kernel)) (fun _ h9 => h9) rfl dJx4a65c_grow_92f84_1 ?_
  refine va_tlen hx hb hE.tt hS (v := 0) (by decide) dJx4a65c_grow_92f84_4 ?_
  refine lv_istore_n (lv' := [(2, .int 0), (0, .ref h0), (1, .int 1)]) hx hb dJx4a65c_grow_92f84_5 rfl hl (by decide) rfl (fun ls hl => ?_)
  refine lv_iload_n hx hb dJx4a65c_grow_92f84_6 rfl (lv_at hl 0 rfl) ?_
  refine lv_if_gt (tgt := 20) hx hb dJx4a65c_grow_92f84_7 (by decide) (fun c0 => absurd c0 (by decide)) (fun _ => ?_)
  refine lv_aload_n hx hb dJx4a65c_grow_92f84_10 rfl (lv_at hl 1 rfl) ?_
  refine va_get (D := D) (ci := 4) (v := .ref td) (C := RJx4a65c) (T := TJx4a65c) (N := 3) hx hb hts iv_k_growI_Jx4a65c hown hK hP 0 rfl rfl 1 (by decide) (hts (.fieldLink RJx4a65c 9 "java/util/ArrayList" "elementData" "[Ljava/lang/Object;") (by decide +kernel)) (fun _ h9 => h9) rfl dJx4a65c_grow_92f84_11 ?_
  refine va_gets hx hb hE.zd hS hown (hts (.fieldLink RJx4a65c 39 "java/util/ArrayList" "DEFAULTCAPACITY_EMPTY_ELEMENTDATA" "[Ljava/lang/Object;") (by decide +kernel)) (fun _ h9 => h9) dJx4a65c_grow_92f84_14 ?_
  refine lv_acmp_eq (rx := some td) (ry := some td) (tgt := 45) hx hb dJx4a65c_grow_92f84_17 (by decide) (fun _ => ?_) (fun c0 => absurd rfl c0)
  refine lv_aload_n hx hb dJx4a65c_grow_92f84_45 rfl (lv_at hl 1 rfl) ?_
  refine lv_bipush (v := 10) hx hb dJx4a65c_grow_92f84_46 (by decide) ?_
  refine lv_iload_n hx hb dJx4a65c_grow_92f84_48 rfl (lv_at hl 2 rfl) ?_
  refine va_mmax hx hb (hml.trans hl.1.symm) hown (hts (.methodLink RJx4a65c 79 Lib.Math.max.name) (by decide +kernel)) (hts (.static Lib.Math.max.name) (by decide +kernel)) (hts (.initialized "java/lang/Math") (by decide +kernel)) (hts (.code Lib.Math.max.name Lib.Math.max.code 2 (some .int)) (by decide +kernel)) (Nat.le_of_ble_eq_true rfl) (Nat.le_of_ble_eq_true rfl) (Nat.le_of_ble_eq_true rfl) (Nat.le_of_ble_eq_true rfl) dJx4a65c_grow_92f84_49 ?_
  refine lv_topi (nm_r (e' := 10) (by decide) ?_)
  refine wq_newq (C := "java/lang/Object") hx hb hown (hts (.classLink RJx4a65c 7 "java/lang/Object") (by decide +kernel)) (hE.ao (by decide +kernel)) hK hP hD hS hA 6 rfl (n := 10) (N' := 10) (by decide) (by decide) (Nat.le_of_ble_eq_true rfl) (Nat.le_of_ble_eq_true rfl) (Nat.le_of_ble_eq_true rfl) dJx4a65c_grow_92f84_52 (fun q109 H hP hD hS => ?_)
  have hP : va_P D vwCl [(h0, .inr (4, [.int k9, .ref td, .int 0])), (q109, .inl (ty 6, 10, .inr (.inr (.inr (.inr (fun _ => none))))))] H := hP
  have hD : va_D A [(h0, .inr (4, [.int k9, .ref td, .int 0])), (q109, .inl (ty 6, 10, .inr (.inr (.inr (.inr (fun _ => none))))))] := hD
  refine W.widen (k := 1) (n := 10) (Nat.le_of_ble_eq_true rfl) (Nat.le_of_ble_eq_true rfl) ?_
  refine lv_dup_x1 hx hb dJx4a65c_grow_92f84_55 rfl rfl ?_
  refine va_put (D := D) (ci := 4) (v := .ref q109) (ty := tyJx4a65c 1) (C := RJx4a65c) (T := TJx4a65c) (N := 3) hx hb hts iv_k_growI_Jx4a65c tyJx4a65c tyJx4a65c_ok nmJx4a65c hown hK hP hD hS 0 rfl rfl 1 (by decide) (hts (.fieldLink RJx4a65c 9 "java/util/ArrayList" "elementData" "[Ljava/lang/Object;") (by decide +kernel)) (fun _ h9 => h9) rfl (by decide +kernel) rfl rfl (Nat.le_of_ble_eq_true rfl) dJx4a65c_grow_92f84_56 (fun H locs hP hD hS => ?_)
  have hP : va_P D vwCl [(h0, .inr (4, [.int k9, .ref q109, .int 0])), (q109, .inl (ty 6, 10, .inr (.inr (.inr (.inr (fun _ => none))))))] H := hP
  have hD : va_D A [(h0, .inr (4, [.int k9, .ref q109, .int 0])), (q109, .inl (ty 6, 10, .inr (.inr (.inr (.inr (fun _ => none))))))] := hD
  have hP9 := hP.sub (ws' := [(h0, .inr (4, [.int k9, .ref q109, .int 0])), (q109, .inl (ty 6, 10, .inr (.inr (.inr (.inr (fun _ => none))))))]) [0, 1] rfl
  have hD9 := hD.sub (ws' := [(h0, .inr (4, [.int k9, .ref q109, .int 0])), (q109, .inl (ty 6, 10, .inr (.inr (.inr (.inr (fun _ => none))))))]) [0, 1] (by decide) rfl
  refine W.widen (k := 1) (n := 10) (Nat.le_of_ble_eq_true rfl) (Nat.le_of_ble_eq_true rfl) ?_
  exact W.aret (v := .ref q109) hx hb hr (Or.inr ⟨_, rfl⟩) (Or.inr ⟨_, rfl⟩) (fun t ht hW => ⟨⟨.ref q109, [(h0, .inr (4, [.int k9, .ref q109, .int 0])), (q109, .inl (ty 6, 10, .inr (.inr (.inr (.inr (fun _ => none))))))], rfl, ⟨q109, rfl, rfl⟩, wq_B.of ht hP9 hD9⟩, hS.F ht⟩) hS.2.2 dJx4a65c_grow_92f84_59
def vs_k_grow : List Cond := .code yJx4a65c_grow_d5877 cJx4a65c_grow_d5877 1 (some (.array (.object "java/lang/Object"))) :: ([.fieldLink RJx4a65c 48 "java/util/ArrayList" "size" "I", .methodLink RJx4a65c 69 yJx4a65c_grow_92f84, .instanceMethod yJx4a65c_grow_92f84, .selects RJx4a65c yJx4a65c_grow_92f84 yJx4a65c_grow_92f84, .initialized RJx4a65c] ++ (u_ws RJx4a65c TJx4a65c 3 ++ (vs_k_growI)))
theorem iv_k_grow_Jx4a65c : ∀ w ∈ u_ws RJx4a65c TJx4a65c 3, w ∈ vs_k_grow := (fun _ h => List.mem_cons_of_mem _ (List.mem_append_right _ (List.mem_append_left _ h)))
set_option maxRecDepth 20000 in
theorem gv_k_grow_0 : GoodIn vs_k_grow (wsV RJx4a65c 69 RJx4a65c yJx4a65c_grow_92f84 vs_k_growI) := goodIn_app (goodIn_sub (by decide +kernel) (by decide +kernel)) (goodIn_sub (fun _ h => List.mem_cons_of_mem _ (List.mem_append_right _ (List.mem_append_right _ (h)))) (by decide +kernel))
set_option maxHeartbeats 4000000 in
set_option maxRecDepth 100000 in
theorem k_grow (l : Launch) (D : va_G) (ty : Nat → ClassId) (td mi sz : Nat) (h0 : Nat) (k9 : Int32) : Met l yJx4a65c_grow_d5877 vs_k_grow { frames := 2, cells := 1, slots := 10, locals := 37 } (va_Pc [.ref h0] (wq_P D ty td mi [(h0, .inr (4, [.int k9, .ref td, .int 0]))] sz)) (wq_Qr (fun (r : Value) (u : va_W) => (∃ (q110 : Nat), r = .ref q110 ∧ (u = [(h0, .inr (4, [.int k9, .ref q110, .int 0])), (q110, .inl (ty 6, 10, .inr (.inr (.inr (.inr (fun _ => none))))))]))) (wq_B D (va_A [(h0, .inr (4, [.int k9, .ref td, .int 0]))] sz)) (va_A [(h0, .inr (4, [.int k9, .ref td, .int 0]))] sz)) 1 10 (va_A [(h0, .inr (4, [.int k9, .ref td, .int 0]))] sz) := by
  refine Met.ofW (cc := cJx4a65c_grow_d5877) (maxL := 1) (ret := (some (.array (.object "java/lang/Object")))) (by decide) rfl ?_
  intro p e s m args below meth c s₁ B hml hv
  obtain ⟨rfl, hsz, hP, hK, hD0, hE⟩ := hv
  have hx := B.exec
  have hb := B.bytes
  have hr := B.returns
  have hts := atoms_spec (ws := vs_k_grow) B.pre
  have hown : s.vm.findClass RJx4a65c = some m.cls := findClass_of_methodNamed B.named
  have hlocks := B.notSynchronized
  subst hsz
  have hD := hD0.self (sz := s.heap.size)
  generalize hAe : va_A [(h0, .inr (4, [.int k9, .ref td, .int 0]))] s.heap.size = A at hD hE ⊢
  have hA : ∀ q : Nat, s.heap.size ≤ q → A q := fun q h => by rw [← hAe]; exact Or.inr h
  have hS : va_S A s.heap s.heap [] := va_S.rf
  have hP : va_P D vwCl [(h0, .inr (4, [.int k9, .ref td, .int 0]))] s.heap := hP
  have hl := lv_entry ([.ref h0]) (n := 1) (Nat.le_of_ble_eq_true rfl)
  rw [lg_entry_eq]
  generalize (lg_sl ([.ref h0]) ++ List.replicate (1 - (lg_sl ([.ref h0])).length) Slot.unset).toArray = ls at hl ⊢
  have hl : lv_has ls 1 [(0, .ref h0)] := hl
  refine lv_aload_n hx hb dJx4a65c_grow_d5877_0 rfl (lv_at hl 0 rfl) ?_
  refine lv_aload_n hx hb dJx4a65c_grow_d5877_1 rfl (lv_at hl 0 rfl) ?_
  refine va_get (D := D) (ci := 4) (v := .int 0) (C := RJx4a65c) (T := TJx4a65c) (N := 3) hx hb hts iv_k_grow_Jx4a65c hown hK hP 0 rfl rfl 2 (by decide) (hts (.fieldLink RJx4a65c 48 "java/util/ArrayList" "size" "I") (by decide +kernel)) (fun _ h9 => h9) rfl dJx4a65c_grow_d5877_2 ?_
  refine lv_iconst (v := 1) hx hb dJx4a65c_grow_d5877_5 (by decide) ?_
  refine lv_iadd hx hb dJx4a65c_grow_d5877_6 ?_
  refine lv_topi (nm_r (e' := 1) (by decide) ?_)
  refine wq_r (wc := [(h0, .inr (4, [.int k9, .ref td, .int 0]))]) (wr := []) (va_runV (As := [.int 1]) (rest := []) ⟨hx, hb, hml, hown, hts⟩ (k_growI l D ty td mi s.heap.size h0 k9) (cwV 1 hts gv_k_grow_0 rfl rfl rfl (by decide +kernel) ⟨(Nat.le_of_ble_eq_true rfl), (Nat.le_of_ble_eq_true rfl)⟩) (wq_preV hP hD hK hE hS hA [0] rfl (by decide) 0 4 rfl rfl) rfl rfl hl.1 rfl (lv_room (Nat.le_of_ble_eq_true rfl)) dJx4a65c_grow_d5877_7 ⟨(Nat.le_of_ble_eq_true rfl), (Nat.le_of_ble_eq_true rfl)⟩) hS hA hP hD [0] [] rfl rfl (by decide) (by decide) (fun r u H locs hw hP hD hS => ?_)
  obtain ⟨q110, rfl, rfl⟩ := hw
  have hP : va_P D vwCl [(h0, .inr (4, [.int k9, .ref q110, .int 0])), (q110, .inl (ty 6, 10, .inr (.inr (.inr (.inr (fun _ => none))))))] H := hP
  have hD : va_D A [(h0, .inr (4, [.int k9, .ref q110, .int 0])), (q110, .inl (ty 6, 10, .inr (.inr (.inr (.inr (fun _ => none))))))] := hD
  refine W.widen (k := 1) (n := 10) (Nat.le_of_ble_eq_true rfl) (Nat.le_of_ble_eq_true rfl) ?_
  have hP9 := hP.sub (ws' := [(h0, .inr (4, [.int k9, .ref q110, .int 0])), (q110, .inl (ty 6, 10, .inr (.inr (.inr (.inr (fun _ => none))))))]) [0, 1] rfl
  have hD9 := hD.sub (ws' := [(h0, .inr (4, [.int k9, .ref q110, .int 0])), (q110, .inl (ty 6, 10, .inr (.inr (.inr (.inr (fun _ => none))))))]) [0, 1] (by decide) rfl
  refine W.widen (k := 1) (n := 10) (Nat.le_of_ble_eq_true rfl) (Nat.le_of_ble_eq_true rfl) ?_
  exact W.aret (v := .ref q110) hx hb hr (Or.inr ⟨_, rfl⟩) (Or.inr ⟨_, rfl⟩) (fun t ht hW => ⟨⟨.ref q110, [(h0, .inr (4, [.int k9, .ref q110, .int 0])), (q110, .inl (ty 6, 10, .inr (.inr (.inr (.inr (fun _ => none))))))], rfl, ⟨q110, rfl, rfl⟩, wq_B.of ht hP9 hD9⟩, hS.F ht⟩) hS.2.2 dJx4a65c_grow_d5877_10
def vs_k_add3_rule : List Cond := .code yJx4a65c_add_72be8 cJx4a65c_add_72be8 4 none :: ([.methodLink RJx4a65c 129 yJx4a65c_grow_d5877, .instanceMethod yJx4a65c_grow_d5877, .selects RJx4a65c yJx4a65c_grow_d5877 yJx4a65c_grow_d5877, .initialized RJx4a65c, .fieldLink RJx4a65c 48 "java/util/ArrayList" "size" "I"] ++ (vs_k_grow ++ (u_ws RJx4a65c TJx4a65c 3)))
theorem iv_k_add3_rule_Jx4a65c : ∀ w ∈ u_ws RJx4a65c TJx4a65c 3, w ∈ vs_k_add3_rule := (fun _ h => List.mem_cons_of_mem _ (List.mem_append_right _ (List.mem_append_right _ (h))))
set_option maxRecDepth 20000 in
theorem gv_k_add3_rule_0 : GoodIn vs_k_add3_rule (wsV RJx4a65c 129 RJx4a65c yJx4a65c_grow_d5877 vs_k_grow) := goodIn_app (goodIn_sub (by decide +kernel) (by decide +kernel)) (goodIn_sub (fun _ h => List.mem_cons_of_mem _ (List.mem_append_right _ (List.mem_append_left _ h))) (by decide +kernel))
set_option maxHeartbeats 4000000 in
set_option maxRecDepth 100000 in
theorem k_add3_rule (l : Launch) (D : va_G) (ty : Nat → ClassId) (td mi sz : Nat) (h0 : Nat) (k9 : Int32) (h1 : Nat) (f0 : Int32) (f1 : Int32) (f2 : Int32) (f3 : Int32) (f4 : Int32) (f5 : Int32) (f6 : Int32) (f7 : Nat) (f8 : Nat) : Met l yJx4a65c_add_72be8 vs_k_add3_rule { frames := 3, cells := 1, slots := 10, locals := 57 } (va_Pc [.ref h0, .ref h1, .ref td, .int 0] (wq_P D ty td mi [(h0, .inr (4, [.int k9, .ref td, .int 0])), (h1, .inr (19, [.int f0, .int f1, .int f2, .int f3, .int f4, .int f5, .int f6, .ref f7, .ref f8]))] sz)) (va_Qv (fun u : va_W => (∃ (q111 : Nat), (u = [(h1, .inr (19, [.int f0, .int f1, .int f2, .int f3, .int f4, .int f5, .int f6, .ref f7, .ref f8])), (h0, .inr (4, [.int k9, .ref q111, .int 1])), (q111, .inl (ty 6, 10, .inr (.inr (.inr (.inr (va_up (fun _ => none) (0 : Int32).toNatClampNeg (some h1)))))))]))) (wq_B D (va_A [(h0, .inr (4, [.int k9, .ref td, .int 0])), (h1, .inr (19, [.int f0, .int f1, .int f2, .int f3, .int f4, .int f5, .int f6, .ref f7, .ref f8]))] sz)) (va_A [(h0, .inr (4, [.int k9, .ref td, .int 0])), (h1, .inr (19, [.int f0, .int f1, .int f2, .int f3, .int f4, .int f5, .int f6, .ref f7, .ref f8]))] sz)) 1 10 (va_A [(h0, .inr (4, [.int k9, .ref td, .int 0])), (h1, .inr (19, [.int f0, .int f1, .int f2, .int f3, .int f4, .int f5, .int f6, .ref f7, .ref f8]))] sz) := by
  refine Met.ofW (cc := cJx4a65c_add_72be8) (maxL := 4) (ret := none) (by decide) rfl ?_
  intro p e s m args below meth c s₁ B hml hv
  obtain ⟨rfl, hsz, hP, hK, hD0, hE⟩ := hv
  have hx := B.exec
  have hb := B.bytes
  have hr := B.returns
  have hts := atoms_spec (ws := vs_k_add3_rule) B.pre
  have hown : s.vm.findClass RJx4a65c = some m.cls := findClass_of_methodNamed B.named
  have hlocks := B.notSynchronized
  subst hsz
  have hD := hD0.self (sz := s.heap.size)
  generalize hAe : va_A [(h0, .inr (4, [.int k9, .ref td, .int 0])), (h1, .inr (19, [.int f0, .int f1, .int f2, .int f3, .int f4, .int f5, .int f6, .ref f7, .ref f8]))] s.heap.size = A at hD hE ⊢
  have hA : ∀ q : Nat, s.heap.size ≤ q → A q := fun q h => by rw [← hAe]; exact Or.inr h
  have hS : va_S A s.heap s.heap [] := va_S.rf
  have hP : va_P D vwCl [(h0, .inr (4, [.int k9, .ref td, .int 0])), (h1, .inr (19, [.int f0, .int f1, .int f2, .int f3, .int f4, .int f5, .int f6, .ref f7, .ref f8]))] s.heap := hP
  have hl := lv_entry ([.ref h0, .ref h1, .ref td, .int 0]) (n := 4) (Nat.le_of_ble_eq_true rfl)
  rw [lg_entry_eq]
  generalize (lg_sl ([.ref h0, .ref h1, .ref td, .int 0]) ++ List.replicate (4 - (lg_sl ([.ref h0, .ref h1, .ref td, .int 0])).length) Slot.unset).toArray = ls at hl ⊢
  have hl : lv_has ls 4 [(0, .ref h0), (1, .ref h1), (2, .ref td), (3, .int 0)] := hl
  refine lv_iload_n hx hb dJx4a65c_add_72be8_0 rfl (lv_at hl 3 rfl) ?_
  refine lv_aload_n hx hb dJx4a65c_add_72be8_1 rfl (lv_at hl 2 rfl) ?_
  refine va_tlen hx hb hE.tt hS (v := 0) (by decide) dJx4a65c_add_72be8_2 ?_
  refine lv_icmp_ne (tgt := 11) hx hb dJx4a65c_add_72be8_3 (by decide) (fun c0 => absurd (by decide) c0) (fun _ => ?_)
  refine lv_aload_n hx hb dJx4a65c_add_72be8_6 rfl (lv_at hl 0 rfl) ?_
  refine wq_r (wc := [(h0, .inr (4, [.int k9, .ref td, .int 0]))]) (wr := [(h1, .inr (19, [.int f0, .int f1, .int f2, .int f3, .int f4, .int f5, .int f6, .ref f7, .ref f8]))]) (va_runV (As := []) (rest := []) ⟨hx, hb, hml, hown, hts⟩ (k_grow l D ty td mi s.heap.size h0 k9) (cwV 0 hts gv_k_add3_rule_0 rfl rfl rfl (by decide +kernel) ⟨(Nat.le_of_ble_eq_true rfl), (Nat.le_of_ble_eq_true rfl)⟩) (wq_preV hP hD hK hE hS hA [0] rfl (by decide) 0 4 rfl rfl) rfl rfl hl.1 rfl (lv_room (Nat.le_of_ble_eq_true rfl)) dJx4a65c_add_72be8_7 ⟨(Nat.le_of_ble_eq_true rfl), (Nat.le_of_ble_eq_true rfl)⟩) hS hA hP hD [0] [1] rfl rfl (by decide) (by decide) (fun r u H locs hw hP hD hS => ?_)
  obtain ⟨q111, rfl, rfl⟩ := hw
  have hP : va_P D vwCl [(h1, .inr (19, [.int f0, .int f1, .int f2, .int f3, .int f4, .int f5, .int f6, .ref f7, .ref f8])), (h0, .inr (4, [.int k9, .ref q111, .int 0])), (q111, .inl (ty 6, 10, .inr (.inr (.inr (.inr (fun _ => none))))))] H := hP
  have hD : va_D A [(h1, .inr (19, [.int f0, .int f1, .int f2, .int f3, .int f4, .int f5, .int f6, .ref f7, .ref f8])), (h0, .inr (4, [.int k9, .ref q111, .int 0])), (q111, .inl (ty 6, 10, .inr (.inr (.inr (.inr (fun _ => none))))))] := hD
  refine W.widen (k := 1) (n := 10) (Nat.le_of_ble_eq_true rfl) (Nat.le_of_ble_eq_true rfl) ?_
  refine lv_astore_n (lv' := [(2, .ref q111), (0, .ref h0), (1, .ref h1), (3, .int 0)]) hx hb dJx4a65c_add_72be8_10 rfl hl (by decide) rfl (fun ls hl => ?_)
  refine lv_aload_n hx hb dJx4a65c_add_72be8_11 rfl (lv_at hl 0 rfl) ?_
  refine lv_iload_n hx hb dJx4a65c_add_72be8_12 rfl (lv_at hl 3 rfl) ?_
  refine lv_aload_n hx hb dJx4a65c_add_72be8_13 rfl (lv_at hl 2 rfl) ?_
  refine va_astqO (D := D) hx hb hK hP hD hS 2 6 0 19 rfl rfl (hE.ca "AnswerFoldModel$Rule" "java/lang/Object" (by decide +kernel)) rfl rfl (vp_in_iff.mpr (by decide)) dJx4a65c_add_72be8_14 (fun H locs hP hD hS => ?_)
  have hP : va_P D vwCl [(h1, .inr (19, [.int f0, .int f1, .int f2, .int f3, .int f4, .int f5, .int f6, .ref f7, .ref f8])), (h0, .inr (4, [.int k9, .ref q111, .int 0])), (q111, .inl (ty 6, 10, .inr (.inr (.inr (.inr (va_up (fun _ => none) (0 : Int32).toNatClampNeg (some h1)))))))] H := hP
  have hD : va_D A [(h1, .inr (19, [.int f0, .int f1, .int f2, .int f3, .int f4, .int f5, .int f6, .ref f7, .ref f8])), (h0, .inr (4, [.int k9, .ref q111, .int 0])), (q111, .inl (ty 6, 10, .inr (.inr (.inr (.inr (va_up (fun _ => none) (0 : Int32).toNatClampNeg (some h1)))))))] := hD
  refine lv_aload_n hx hb dJx4a65c_add_72be8_15 rfl (lv_at hl 1 rfl) ?_
  refine lv_iload_n hx hb dJx4a65c_add_72be8_16 rfl (lv_at hl 3 rfl) ?_
  refine lv_iconst (v := 1) hx hb dJx4a65c_add_72be8_17 (by decide) ?_
  refine lv_iadd hx hb dJx4a65c_add_72be8_18 ?_
  refine lv_topi (nm_r (e' := 1) (by decide) ?_)
  refine va_put (D := D) (ci := 4) (v := .int 1) (ty := tyJx4a65c 2) (C := RJx4a65c) (T := TJx4a65c) (N := 3) hx hb hts iv_k_add3_rule_Jx4a65c tyJx4a65c tyJx4a65c_ok nmJx4a65c hown hK hP hD hS 1 rfl rfl 2 (by decide) (hts (.fieldLink RJx4a65c 48 "java/util/ArrayList" "size" "I") (by decide +kernel)) (fun _ h9 => h9) rfl (by decide +kernel) rfl rfl (Nat.le_of_ble_eq_true rfl) dJx4a65c_add_72be8_19 (fun H locs hP hD hS => ?_)
  have hP : va_P D vwCl [(h1, .inr (19, [.int f0, .int f1, .int f2, .int f3, .int f4, .int f5, .int f6, .ref f7, .ref f8])), (h0, .inr (4, [.int k9, .ref q111, .int 1])), (q111, .inl (ty 6, 10, .inr (.inr (.inr (.inr (va_up (fun _ => none) (0 : Int32).toNatClampNeg (some h1)))))))] H := hP
  have hD : va_D A [(h1, .inr (19, [.int f0, .int f1, .int f2, .int f3, .int f4, .int f5, .int f6, .ref f7, .ref f8])), (h0, .inr (4, [.int k9, .ref q111, .int 1])), (q111, .inl (ty 6, 10, .inr (.inr (.inr (.inr (va_up (fun _ => none) (0 : Int32).toNatClampNeg (some h1)))))))] := hD
  have hP9 := hP.sub (ws' := [(h1, .inr (19, [.int f0, .int f1, .int f2, .int f3, .int f4, .int f5, .int f6, .ref f7, .ref f8])), (h0, .inr (4, [.int k9, .ref q111, .int 1])), (q111, .inl (ty 6, 10, .inr (.inr (.inr (.inr (va_up (fun _ => none) (0 : Int32).toNatClampNeg (some h1)))))))]) [0, 1, 2] rfl
  have hD9 := hD.sub (ws' := [(h1, .inr (19, [.int f0, .int f1, .int f2, .int f3, .int f4, .int f5, .int f6, .ref f7, .ref f8])), (h0, .inr (4, [.int k9, .ref q111, .int 1])), (q111, .inl (ty 6, 10, .inr (.inr (.inr (.inr (va_up (fun _ => none) (0 : Int32).toNatClampNeg (some h1)))))))]) [0, 1, 2] (by decide) rfl
  refine W.widen (k := 1) (n := 10) (Nat.le_of_ble_eq_true rfl) (Nat.le_of_ble_eq_true rfl) ?_
  exact W.vret hx hb hr (fun t ht hW => ⟨⟨[(h1, .inr (19, [.int f0, .int f1, .int f2, .int f3, .int f4, .int f5, .int f6, .ref f7, .ref f8])), (h0, .inr (4, [.int k9, .ref q111, .int 1])), (q111, .inl (ty 6, 10, .inr (.inr (.inr (.inr (va_up (fun _ => none) (0 : Int32).toNatClampNeg (some h1)))))))], rfl, ⟨q111, rfl⟩, wq_B.of ht hP9 hD9⟩, hS.F ht⟩) hS.2.2 dJx4a65c_add_72be8_22
def vs_k_add1_rule : List Cond := .code yJx4a65c_add_9ea2d cJx4a65c_add_9ea2d 2 (some .boolean) :: ([.sameField "java/util/ArrayList" "java/util/AbstractList" "modCount" "I", .fieldLink RJx4a65c 63 "java/util/ArrayList" "modCount" "I", .fieldLink RJx4a65c 9 "java/util/ArrayList" "elementData" "[Ljava/lang/Object;", .fieldLink RJx4a65c 48 "java/util/ArrayList" "size" "I", .methodLink RJx4a65c 131 yJx4a65c_add_72be8, .instanceMethod yJx4a65c_add_72be8, .selects RJx4a65c yJx4a65c_add_72be8 yJx4a65c_add_72be8, .initialized RJx4a65c] ++ (u_ws RJx4a65c TJx4a65c 3 ++ (vs_k_add3_rule)))
theorem iv_k_add1_rule_Jx4a65c : ∀ w ∈ u_ws RJx4a65c TJx4a65c 3, w ∈ vs_k_add1_rule := (fun _ h => List.mem_cons_of_mem _ (List.mem_append_right _ (List.mem_append_left _ h)))
set_option maxRecDepth 20000 in
theorem gv_k_add1_rule_0 : GoodIn vs_k_add1_rule (wsV RJx4a65c 131 RJx4a65c yJx4a65c_add_72be8 vs_k_add3_rule) := goodIn_app (goodIn_sub (by decide +kernel) (by decide +kernel)) (goodIn_sub (fun _ h => List.mem_cons_of_mem _ (List.mem_append_right _ (List.mem_append_right _ (h)))) (by decide +kernel))
set_option maxHeartbeats 4000000 in
set_option maxRecDepth 100000 in
theorem k_add1_rule (l : Launch) (D : va_G) (ty : Nat → ClassId) (td mi sz : Nat) (h0 : Nat) (k9 : Int32) (h1 : Nat) (f0 : Int32) (f1 : Int32) (f2 : Int32) (f3 : Int32) (f4 : Int32) (f5 : Int32) (f6 : Int32) (f7 : Nat) (f8 : Nat) : Met l yJx4a65c_add_9ea2d vs_k_add1_rule { frames := 4, cells := 1, slots := 10, locals := 80 } (va_Pc [.ref h0, .ref h1] (wq_P D ty td mi [(h0, .inr (4, [.int k9, .ref td, .int 0])), (h1, .inr (19, [.int f0, .int f1, .int f2, .int f3, .int f4, .int f5, .int f6, .ref f7, .ref f8]))] sz)) (va_Qi (fun (r : Int32) (u : va_W) => (∃ (q112 : Nat), r = 1 ∧ (u = [(h1, .inr (19, [.int f0, .int f1, .int f2, .int f3, .int f4, .int f5, .int f6, .ref f7, .ref f8])), (h0, .inr (4, [.int (k9 + 1), .ref q112, .int 1])), (q112, .inl (ty 6, 10, .inr (.inr (.inr (.inr (va_up (fun _ => none) (0 : Int32).toNatClampNeg (some h1)))))))]))) (wq_B D (va_A [(h0, .inr (4, [.int k9, .ref td, .int 0])), (h1, .inr (19, [.int f0, .int f1, .int f2, .int f3, .int f4, .int f5, .int f6, .ref f7, .ref f8]))] sz)) (va_A [(h0, .inr (4, [.int k9, .ref td, .int 0])), (h1, .inr (19, [.int f0, .int f1, .int f2, .int f3, .int f4, .int f5, .int f6, .ref f7, .ref f8]))] sz)) 1 10 (va_A [(h0, .inr (4, [.int k9, .ref td, .int 0])), (h1, .inr (19, [.int f0, .int f1, .int f2, .int f3, .int f4, .int f5, .int f6, .ref f7, .ref f8]))] sz) := by
  refine Met.ofW (cc := cJx4a65c_add_9ea2d) (maxL := 2) (ret := (some .boolean)) (by decide) rfl ?_
  intro p e s m args below meth c s₁ B hml hv
  obtain ⟨rfl, hsz, hP, hK, hD0, hE⟩ := hv
  have hx := B.exec
  have hb := B.bytes
  have hr := B.returns
  have hts := atoms_spec (ws := vs_k_add1_rule) B.pre
  have hown : s.vm.findClass RJx4a65c = some m.cls := findClass_of_methodNamed B.named
  have hlocks := B.notSynchronized
  subst hsz
  have hD := hD0.self (sz := s.heap.size)
  generalize hAe : va_A [(h0, .inr (4, [.int k9, .ref td, .int 0])), (h1, .inr (19, [.int f0, .int f1, .int f2, .int f3, .int f4, .int f5, .int f6, .ref f7, .ref f8]))] s.heap.size = A at hD hE ⊢
  have hA : ∀ q : Nat, s.heap.size ≤ q → A q := fun q h => by rw [← hAe]; exact Or.inr h
  have hS : va_S A s.heap s.heap [] := va_S.rf
  have hP : va_P D vwCl [(h0, .inr (4, [.int k9, .ref td, .int 0])), (h1, .inr (19, [.int f0, .int f1, .int f2, .int f3, .int f4, .int f5, .int f6, .ref f7, .ref f8]))] s.heap := hP
  have hl := lv_entry ([.ref h0, .ref h1]) (n := 2) (Nat.le_of_ble_eq_true rfl)
  rw [lg_entry_eq]
  generalize (lg_sl ([.ref h0, .ref h1]) ++ List.replicate (2 - (lg_sl ([.ref h0, .ref h1])).length) Slot.unset).toArray = ls at hl ⊢
  have hl : lv_has ls 2 [(0, .ref h0), (1, .ref h1)] := hl
  refine lv_aload_n hx hb dJx4a65c_add_9ea2d_0 rfl (lv_at hl 0 rfl) ?_
  refine lv_dup hx hb dJx4a65c_add_9ea2d_1 rfl ?_
  refine va_get (D := D) (ci := 4) (v := .int k9) (C := RJx4a65c) (T := TJx4a65c) (N := 3) hx hb hts iv_k_add1_rule_Jx4a65c hown hK hP 0 rfl rfl 0 (by decide) (hts (.fieldLink RJx4a65c 63 "java/util/ArrayList" "modCount" "I") (by decide +kernel)) (fun x9 h9 => u_same (hts (.sameField "java/util/ArrayList" "java/util/AbstractList" "modCount" "I") (by decide +kernel)) x9 h9) rfl dJx4a65c_add_9ea2d_2 ?_
  refine lv_iconst (v := 1) hx hb dJx4a65c_add_9ea2d_5 (by decide) ?_
  refine lv_iadd hx hb dJx4a65c_add_9ea2d_6 ?_
  refine va_put (D := D) (ci := 4) (v := .int (k9 + 1)) (ty := tyJx4a65c 0) (C := RJx4a65c) (T := TJx4a65c) (N := 3) hx hb hts iv_k_add1_rule_Jx4a65c tyJx4a65c tyJx4a65c_ok nmJx4a65c hown hK hP hD hS 0 rfl rfl 0 (by decide) (hts (.fieldLink RJx4a65c 63 "java/util/ArrayList" "modCount" "I") (by decide +kernel)) (fun x9 h9 => u_same (hts (.sameField "java/util/ArrayList" "java/util/AbstractList" "modCount" "I") (by decide +kernel)) x9 h9) rfl (by decide +kernel) rfl rfl (Nat.le_of_ble_eq_true rfl) dJx4a65c_add_9ea2d_7 (fun H locs hP hD hS => ?_)
  have hP : va_P D vwCl [(h0, .inr (4, [.int (k9 + 1), .ref td, .int 0])), (h1, .inr (19, [.int f0, .int f1, .int f2, .int f3, .int f4, .int f5, .int f6, .ref f7, .ref f8]))] H := hP
  have hD : va_D A [(h0, .inr (4, [.int (k9 + 1), .ref td, .int 0])), (h1, .inr (19, [.int f0, .int f1, .int f2, .int f3, .int f4, .int f5, .int f6, .ref f7, .ref f8]))] := hD
  refine lv_aload_n hx hb dJx4a65c_add_9ea2d_10 rfl (lv_at hl 0 rfl) ?_
  refine lv_aload_n hx hb dJx4a65c_add_9ea2d_11 rfl (lv_at hl 1 rfl) ?_
  refine lv_aload_n hx hb dJx4a65c_add_9ea2d_12 rfl (lv_at hl 0 rfl) ?_
  refine va_get (D := D) (ci := 4) (v := .ref td) (C := RJx4a65c) (T := TJx4a65c) (N := 3) hx hb hts iv_k_add1_rule_Jx4a65c hown hK hP 0 rfl rfl 1 (by decide) (hts (.fieldLink RJx4a65c 9 "java/util/ArrayList" "elementData" "[Ljava/lang/Object;") (by decide +kernel)) (fun _ h9 => h9) rfl dJx4a65c_add_9ea2d_13 ?_
  refine lv_aload_n hx hb dJx4a65c_add_9ea2d_16 rfl (lv_at hl 0 rfl) ?_
  refine va_get (D := D) (ci := 4) (v := .int 0) (C := RJx4a65c) (T := TJx4a65c) (N := 3) hx hb hts iv_k_add1_rule_Jx4a65c hown hK hP 0 rfl rfl 2 (by decide) (hts (.fieldLink RJx4a65c 48 "java/util/ArrayList" "size" "I") (by decide +kernel)) (fun _ h9 => h9) rfl dJx4a65c_add_9ea2d_17 ?_
  refine wq_v (wc := [(h0, .inr (4, [.int (k9 + 1), .ref td, .int 0])), (h1, .inr (19, [.int f0, .int f1, .int f2, .int f3, .int f4, .int f5, .int f6, .ref f7, .ref f8]))]) (wr := []) (va_runV (As := [.ref h1, .ref td, .int 0]) (rest := []) ⟨hx, hb, hml, hown, hts⟩ (k_add3_rule l D ty td mi H.size h0 (k9 + 1) h1 f0 f1 f2 f3 f4 f5 f6 f7 f8) (cwV 3 hts gv_k_add1_rule_0 rfl rfl rfl (by decide +kernel) ⟨(Nat.le_of_ble_eq_true rfl), (Nat.le_of_ble_eq_true rfl)⟩) (wq_preV hP hD hK hE hS hA [0, 1] rfl (by decide) 0 4 rfl rfl) rfl rfl hl.1 rfl (lv_room (Nat.le_of_ble_eq_true rfl)) dJx4a65c_add_9ea2d_20 ⟨(Nat.le_of_ble_eq_true rfl), (Nat.le_of_ble_eq_true rfl)⟩) hS hA hP hD [0, 1] [] rfl rfl (by decide) (by decide) (fun u H locs hw hP hD hS => ?_)
  obtain ⟨q112, rfl⟩ := hw
  have hP : va_P D vwCl [(h1, .inr (19, [.int f0, .int f1, .int f2, .int f3, .int f4, .int f5, .int f6, .ref f7, .ref f8])), (h0, .inr (4, [.int (k9 + 1), .ref q112, .int 1])), (q112, .inl (ty 6, 10, .inr (.inr (.inr (.inr (va_up (fun _ => none) (0 : Int32).toNatClampNeg (some h1)))))))] H := hP
  have hD : va_D A [(h1, .inr (19, [.int f0, .int f1, .int f2, .int f3, .int f4, .int f5, .int f6, .ref f7, .ref f8])), (h0, .inr (4, [.int (k9 + 1), .ref q112, .int 1])), (q112, .inl (ty 6, 10, .inr (.inr (.inr (.inr (va_up (fun _ => none) (0 : Int32).toNatClampNeg (some h1)))))))] := hD
  refine W.widen (k := 1) (n := 10) (Nat.le_of_ble_eq_true rfl) (Nat.le_of_ble_eq_true rfl) ?_
  refine lv_iconst (v := 1) hx hb dJx4a65c_add_9ea2d_23 (by decide) ?_
  have hP9 := hP.sub (ws' := [(h1, .inr (19, [.int f0, .int f1, .int f2, .int f3, .int f4, .int f5, .int f6, .ref f7, .ref f8])), (h0, .inr (4, [.int (k9 + 1), .ref q112, .int 1])), (q112, .inl (ty 6, 10, .inr (.inr (.inr (.inr (va_up (fun _ => none) (0 : Int32).toNatClampNeg (some h1)))))))]) [0, 1, 2] rfl
  have hD9 := hD.sub (ws' := [(h1, .inr (19, [.int f0, .int f1, .int f2, .int f3, .int f4, .int f5, .int f6, .ref f7, .ref f8])), (h0, .inr (4, [.int (k9 + 1), .ref q112, .int 1])), (q112, .inl (ty 6, 10, .inr (.inr (.inr (.inr (va_up (fun _ => none) (0 : Int32).toNatClampNeg (some h1)))))))]) [0, 1, 2] (by decide) rfl
  refine W.widen (k := 1) (n := 10) (Nat.le_of_ble_eq_true rfl) (Nat.le_of_ble_eq_true rfl) ?_
  exact W.zret (v := 1) hx hb hr rfl (fun t ht hW => ⟨⟨1, [(h1, .inr (19, [.int f0, .int f1, .int f2, .int f3, .int f4, .int f5, .int f6, .ref f7, .ref f8])), (h0, .inr (4, [.int (k9 + 1), .ref q112, .int 1])), (q112, .inl (ty 6, 10, .inr (.inr (.inr (.inr (va_up (fun _ => none) (0 : Int32).toNatClampNeg (some h1)))))))], rfl, ⟨q112, rfl, rfl⟩, wq_B.of ht hP9 hD9⟩, hS.F ht⟩) hS.2.2 dJx4a65c_add_9ea2d_24
def vs_k_add3_ints : List Cond := .code yJx4a65c_add_72be8 cJx4a65c_add_72be8 4 none :: ([.methodLink RJx4a65c 129 yJx4a65c_grow_d5877, .instanceMethod yJx4a65c_grow_d5877, .selects RJx4a65c yJx4a65c_grow_d5877 yJx4a65c_grow_d5877, .initialized RJx4a65c, .fieldLink RJx4a65c 48 "java/util/ArrayList" "size" "I"] ++ (vs_k_grow ++ (u_ws RJx4a65c TJx4a65c 3)))
theorem iv_k_add3_ints_Jx4a65c : ∀ w ∈ u_ws RJx4a65c TJx4a65c 3, w ∈ vs_k_add3_ints := (fun _ h => List.mem_cons_of_mem _ (List.mem_append_right _ (List.mem_append_right _ (h))))
set_option maxRecDepth 20000 in
theorem gv_k_add3_ints_0 : GoodIn vs_k_add3_ints (wsV RJx4a65c 129 RJx4a65c yJx4a65c_grow_d5877 vs_k_grow) := goodIn_app (goodIn_sub (by decide +kernel) (by decide +kernel)) (goodIn_sub (fun _ h => List.mem_cons_of_mem _ (List.mem_append_right _ (List.mem_append_left _ h))) (by decide +kernel))
set_option maxHeartbeats 4000000 in
set_option maxRecDepth 100000 in
theorem k_add3_ints (l : Launch) (D : va_G) (ty : Nat → ClassId) (td mi sz : Nat) (h0 : Nat) (k9 : Int32) (h1 : Nat) (f0 : Nat → Int32) : Met l yJx4a65c_add_72be8 vs_k_add3_ints { frames := 3, cells := 1, slots := 10, locals := 57 } (va_Pc [.ref h0, .ref h1, .ref td, .int 0] (wq_P D ty td mi [(h0, .inr (4, [.int k9, .ref td, .int 0])), (h1, .inl (ty 0, 2, .inl f0))] sz)) (va_Qv (fun u : va_W => (∃ (q113 : Nat), (u = [(h1, .inl (ty 0, 2, .inl f0)), (h0, .inr (4, [.int k9, .ref q113, .int 1])), (q113, .inl (ty 6, 10, .inr (.inr (.inr (.inr (va_up (fun _ => none) (0 : Int32).toNatClampNeg (some h1)))))))]))) (wq_B D (va_A [(h0, .inr (4, [.int k9, .ref td, .int 0])), (h1, .inl (ty 0, 2, .inl f0))] sz)) (va_A [(h0, .inr (4, [.int k9, .ref td, .int 0])), (h1, .inl (ty 0, 2, .inl f0))] sz)) 1 10 (va_A [(h0, .inr (4, [.int k9, .ref td, .int 0])), (h1, .inl (ty 0, 2, .inl f0))] sz) := by
  refine Met.ofW (cc := cJx4a65c_add_72be8) (maxL := 4) (ret := none) (by decide) rfl ?_
  intro p e s m args below meth c s₁ B hml hv
  obtain ⟨rfl, hsz, hP, hK, hD0, hE⟩ := hv
  have hx := B.exec
  have hb := B.bytes
  have hr := B.returns
  have hts := atoms_spec (ws := vs_k_add3_ints) B.pre
  have hown : s.vm.findClass RJx4a65c = some m.cls := findClass_of_methodNamed B.named
  have hlocks := B.notSynchronized
  subst hsz
  have hD := hD0.self (sz := s.heap.size)
  generalize hAe : va_A [(h0, .inr (4, [.int k9, .ref td, .int 0])), (h1, .inl (ty 0, 2, .inl f0))] s.heap.size = A at hD hE ⊢
  have hA : ∀ q : Nat, s.heap.size ≤ q → A q := fun q h => by rw [← hAe]; exact Or.inr h
  have hS : va_S A s.heap s.heap [] := va_S.rf
  have hP : va_P D vwCl [(h0, .inr (4, [.int k9, .ref td, .int 0])), (h1, .inl (ty 0, 2, .inl f0))] s.heap := hP
  have hl := lv_entry ([.ref h0, .ref h1, .ref td, .int 0]) (n := 4) (Nat.le_of_ble_eq_true rfl)
  rw [lg_entry_eq]
  generalize (lg_sl ([.ref h0, .ref h1, .ref td, .int 0]) ++ List.replicate (4 - (lg_sl ([.ref h0, .ref h1, .ref td, .int 0])).length) Slot.unset).toArray = ls at hl ⊢
  have hl : lv_has ls 4 [(0, .ref h0), (1, .ref h1), (2, .ref td), (3, .int 0)] := hl
  refine lv_iload_n hx hb dJx4a65c_add_72be8_0 rfl (lv_at hl 3 rfl) ?_
  refine lv_aload_n hx hb dJx4a65c_add_72be8_1 rfl (lv_at hl 2 rfl) ?_
  refine va_tlen hx hb hE.tt hS (v := 0) (by decide) dJx4a65c_add_72be8_2 ?_
  refine lv_icmp_ne (tgt := 11) hx hb dJx4a65c_add_72be8_3 (by decide) (fun c0 => absurd (by decide) c0) (fun _ => ?_)
  refine lv_aload_n hx hb dJx4a65c_add_72be8_6 rfl (lv_at hl 0 rfl) ?_
  refine wq_r (wc := [(h0, .inr (4, [.int k9, .ref td, .int 0]))]) (wr := [(h1, .inl (ty 0, 2, .inl f0))]) (va_runV (As := []) (rest := []) ⟨hx, hb, hml, hown, hts⟩ (k_grow l D ty td mi s.heap.size h0 k9) (cwV 0 hts gv_k_add3_ints_0 rfl rfl rfl (by decide +kernel) ⟨(Nat.le_of_ble_eq_true rfl), (Nat.le_of_ble_eq_true rfl)⟩) (wq_preV hP hD hK hE hS hA [0] rfl (by decide) 0 4 rfl rfl) rfl rfl hl.1 rfl (lv_room (Nat.le_of_ble_eq_true rfl)) dJx4a65c_add_72be8_7 ⟨(Nat.le_of_ble_eq_true rfl), (Nat.le_of_ble_eq_true rfl)⟩) hS hA hP hD [0] [1] rfl rfl (by decide) (by decide) (fun r u H locs hw hP hD hS => ?_)
  obtain ⟨q113, rfl, rfl⟩ := hw
  have hP : va_P D vwCl [(h1, .inl (ty 0, 2, .inl f0)), (h0, .inr (4, [.int k9, .ref q113, .int 0])), (q113, .inl (ty 6, 10, .inr (.inr (.inr (.inr (fun _ => none))))))] H := hP
  have hD : va_D A [(h1, .inl (ty 0, 2, .inl f0)), (h0, .inr (4, [.int k9, .ref q113, .int 0])), (q113, .inl (ty 6, 10, .inr (.inr (.inr (.inr (fun _ => none))))))] := hD
  refine W.widen (k := 1) (n := 10) (Nat.le_of_ble_eq_true rfl) (Nat.le_of_ble_eq_true rfl) ?_
  refine lv_astore_n (lv' := [(2, .ref q113), (0, .ref h0), (1, .ref h1), (3, .int 0)]) hx hb dJx4a65c_add_72be8_10 rfl hl (by decide) rfl (fun ls hl => ?_)
  refine lv_aload_n hx hb dJx4a65c_add_72be8_11 rfl (lv_at hl 0 rfl) ?_
  refine lv_iload_n hx hb dJx4a65c_add_72be8_12 rfl (lv_at hl 3 rfl) ?_
  refine lv_aload_n hx hb dJx4a65c_add_72be8_13 rfl (lv_at hl 2 rfl) ?_
  refine va_astqM (D := D) hx hb hK hP hD hS 2 6 rfl rfl (wq_anyI hK hP (q0 := 0) (t0 := 0) rfl rfl (hE.ca "[I" "java/lang/Object" (by decide +kernel))) (vp_in_iff.mpr (by decide)) dJx4a65c_add_72be8_14 (fun H locs hP hD hS => ?_)
  have hP : va_P D vwCl [(h1, .inl (ty 0, 2, .inl f0)), (h0, .inr (4, [.int k9, .ref q113, .int 0])), (q113, .inl (ty 6, 10, .inr (.inr (.inr (.inr (va_up (fun _ => none) (0 : Int32).toNatClampNeg (some h1)))))))] H := hP
  have hD : va_D A [(h1, .inl (ty 0, 2, .inl f0)), (h0, .inr (4, [.int k9, .ref q113, .int 0])), (q113, .inl (ty 6, 10, .inr (.inr (.inr (.inr (va_up (fun _ => none) (0 : Int32).toNatClampNeg (some h1)))))))] := hD
  refine lv_aload_n hx hb dJx4a65c_add_72be8_15 rfl (lv_at hl 1 rfl) ?_
  refine lv_iload_n hx hb dJx4a65c_add_72be8_16 rfl (lv_at hl 3 rfl) ?_
  refine lv_iconst (v := 1) hx hb dJx4a65c_add_72be8_17 (by decide) ?_
  refine lv_iadd hx hb dJx4a65c_add_72be8_18 ?_
  refine lv_topi (nm_r (e' := 1) (by decide) ?_)
  refine va_put (D := D) (ci := 4) (v := .int 1) (ty := tyJx4a65c 2) (C := RJx4a65c) (T := TJx4a65c) (N := 3) hx hb hts iv_k_add3_ints_Jx4a65c tyJx4a65c tyJx4a65c_ok nmJx4a65c hown hK hP hD hS 1 rfl rfl 2 (by decide) (hts (.fieldLink RJx4a65c 48 "java/util/ArrayList" "size" "I") (by decide +kernel)) (fun _ h9 => h9) rfl (by decide +kernel) rfl rfl (Nat.le_of_ble_eq_true rfl) dJx4a65c_add_72be8_19 (fun H locs hP hD hS => ?_)
  have hP : va_P D vwCl [(h1, .inl (ty 0, 2, .inl f0)), (h0, .inr (4, [.int k9, .ref q113, .int 1])), (q113, .inl (ty 6, 10, .inr (.inr (.inr (.inr (va_up (fun _ => none) (0 : Int32).toNatClampNeg (some h1)))))))] H := hP
  have hD : va_D A [(h1, .inl (ty 0, 2, .inl f0)), (h0, .inr (4, [.int k9, .ref q113, .int 1])), (q113, .inl (ty 6, 10, .inr (.inr (.inr (.inr (va_up (fun _ => none) (0 : Int32).toNatClampNeg (some h1)))))))] := hD
  have hP9 := hP.sub (ws' := [(h1, .inl (ty 0, 2, .inl f0)), (h0, .inr (4, [.int k9, .ref q113, .int 1])), (q113, .inl (ty 6, 10, .inr (.inr (.inr (.inr (va_up (fun _ => none) (0 : Int32).toNatClampNeg (some h1)))))))]) [0, 1, 2] rfl
  have hD9 := hD.sub (ws' := [(h1, .inl (ty 0, 2, .inl f0)), (h0, .inr (4, [.int k9, .ref q113, .int 1])), (q113, .inl (ty 6, 10, .inr (.inr (.inr (.inr (va_up (fun _ => none) (0 : Int32).toNatClampNeg (some h1)))))))]) [0, 1, 2] (by decide) rfl
  refine W.widen (k := 1) (n := 10) (Nat.le_of_ble_eq_true rfl) (Nat.le_of_ble_eq_true rfl) ?_
  exact W.vret hx hb hr (fun t ht hW => ⟨⟨[(h1, .inl (ty 0, 2, .inl f0)), (h0, .inr (4, [.int k9, .ref q113, .int 1])), (q113, .inl (ty 6, 10, .inr (.inr (.inr (.inr (va_up (fun _ => none) (0 : Int32).toNatClampNeg (some h1)))))))], rfl, ⟨q113, rfl⟩, wq_B.of ht hP9 hD9⟩, hS.F ht⟩) hS.2.2 dJx4a65c_add_72be8_22
def vs_k_add1_ints : List Cond := .code yJx4a65c_add_9ea2d cJx4a65c_add_9ea2d 2 (some .boolean) :: ([.sameField "java/util/ArrayList" "java/util/AbstractList" "modCount" "I", .fieldLink RJx4a65c 63 "java/util/ArrayList" "modCount" "I", .fieldLink RJx4a65c 9 "java/util/ArrayList" "elementData" "[Ljava/lang/Object;", .fieldLink RJx4a65c 48 "java/util/ArrayList" "size" "I", .methodLink RJx4a65c 131 yJx4a65c_add_72be8, .instanceMethod yJx4a65c_add_72be8, .selects RJx4a65c yJx4a65c_add_72be8 yJx4a65c_add_72be8, .initialized RJx4a65c] ++ (u_ws RJx4a65c TJx4a65c 3 ++ (vs_k_add3_ints)))
theorem iv_k_add1_ints_Jx4a65c : ∀ w ∈ u_ws RJx4a65c TJx4a65c 3, w ∈ vs_k_add1_ints := (fun _ h => List.mem_cons_of_mem _ (List.mem_append_right _ (List.mem_append_left _ h)))
set_option maxRecDepth 20000 in
theorem gv_k_add1_ints_0 : GoodIn vs_k_add1_ints (wsV RJx4a65c 131 RJx4a65c yJx4a65c_add_72be8 vs_k_add3_ints) := goodIn_app (goodIn_sub (by decide +kernel) (by decide +kernel)) (goodIn_sub (fun _ h => List.mem_cons_of_mem _ (List.mem_append_right _ (List.mem_append_right _ (h)))) (by decide +kernel))
set_option maxHeartbeats 4000000 in
set_option maxRecDepth 100000 in
theorem k_add1_ints (l : Launch) (D : va_G) (ty : Nat → ClassId) (td mi sz : Nat) (h0 : Nat) (k9 : Int32) (h1 : Nat) (f0 : Nat → Int32) : Met l yJx4a65c_add_9ea2d vs_k_add1_ints { frames := 4, cells := 1, slots := 10, locals := 80 } (va_Pc [.ref h0, .ref h1] (wq_P D ty td mi [(h0, .inr (4, [.int k9, .ref td, .int 0])), (h1, .inl (ty 0, 2, .inl f0))] sz)) (va_Qi (fun (r : Int32) (u : va_W) => (∃ (q114 : Nat), r = 1 ∧ (u = [(h1, .inl (ty 0, 2, .inl f0)), (h0, .inr (4, [.int (k9 + 1), .ref q114, .int 1])), (q114, .inl (ty 6, 10, .inr (.inr (.inr (.inr (va_up (fun _ => none) (0 : Int32).toNatClampNeg (some h1)))))))]))) (wq_B D (va_A [(h0, .inr (4, [.int k9, .ref td, .int 0])), (h1, .inl (ty 0, 2, .inl f0))] sz)) (va_A [(h0, .inr (4, [.int k9, .ref td, .int 0])), (h1, .inl (ty 0, 2, .inl f0))] sz)) 1 10 (va_A [(h0, .inr (4, [.int k9, .ref td, .int 0])), (h1, .inl (ty 0, 2, .inl f0))] sz) := by
  refine Met.ofW (cc := cJx4a65c_add_9ea2d) (maxL := 2) (ret := (some .boolean)) (by decide) rfl ?_
  intro p e s m args below meth c s₁ B hml hv
  obtain ⟨rfl, hsz, hP, hK, hD0, hE⟩ := hv
  have hx := B.exec
  have hb := B.bytes
  have hr := B.returns
  have hts := atoms_spec (ws := vs_k_add1_ints) B.pre
  have hown : s.vm.findClass RJx4a65c = some m.cls := findClass_of_methodNamed B.named
  have hlocks := B.notSynchronized
  subst hsz
  have hD := hD0.self (sz := s.heap.size)
  generalize hAe : va_A [(h0, .inr (4, [.int k9, .ref td, .int 0])), (h1, .inl (ty 0, 2, .inl f0))] s.heap.size = A at hD hE ⊢
  have hA : ∀ q : Nat, s.heap.size ≤ q → A q := fun q h => by rw [← hAe]; exact Or.inr h
  have hS : va_S A s.heap s.heap [] := va_S.rf
  have hP : va_P D vwCl [(h0, .inr (4, [.int k9, .ref td, .int 0])), (h1, .inl (ty 0, 2, .inl f0))] s.heap := hP
  have hl := lv_entry ([.ref h0, .ref h1]) (n := 2) (Nat.le_of_ble_eq_true rfl)
  rw [lg_entry_eq]
  generalize (lg_sl ([.ref h0, .ref h1]) ++ List.replicate (2 - (lg_sl ([.ref h0, .ref h1])).length) Slot.unset).toArray = ls at hl ⊢
  have hl : lv_has ls 2 [(0, .ref h0), (1, .ref h1)] := hl
  refine lv_aload_n hx hb dJx4a65c_add_9ea2d_0 rfl (lv_at hl 0 rfl) ?_
  refine lv_dup hx hb dJx4a65c_add_9ea2d_1 rfl ?_
  refine va_get (D := D) (ci := 4) (v := .int k9) (C := RJx4a65c) (T := TJx4a65c) (N := 3) hx hb hts iv_k_add1_ints_Jx4a65c hown hK hP 0 rfl rfl 0 (by decide) (hts (.fieldLink RJx4a65c 63 "java/util/ArrayList" "modCount" "I") (by decide +kernel)) (fun x9 h9 => u_same (hts (.sameField "java/util/ArrayList" "java/util/AbstractList" "modCount" "I") (by decide +kernel)) x9 h9) rfl dJx4a65c_add_9ea2d_2 ?_
  refine lv_iconst (v := 1) hx hb dJx4a65c_add_9ea2d_5 (by decide) ?_
  refine lv_iadd hx hb dJx4a65c_add_9ea2d_6 ?_
  refine va_put (D := D) (ci := 4) (v := .int (k9 + 1)) (ty := tyJx4a65c 0) (C := RJx4a65c) (T := TJx4a65c) (N := 3) hx hb hts iv_k_add1_ints_Jx4a65c tyJx4a65c tyJx4a65c_ok nmJx4a65c hown hK hP hD hS 0 rfl rfl 0 (by decide) (hts (.fieldLink RJx4a65c 63 "java/util/ArrayList" "modCount" "I") (by decide +kernel)) (fun x9 h9 => u_same (hts (.sameField "java/util/ArrayList" "java/util/AbstractList" "modCount" "I") (by decide +kernel)) x9 h9) rfl (by decide +kernel) rfl rfl (Nat.le_of_ble_eq_true rfl) dJx4a65c_add_9ea2d_7 (fun H locs hP hD hS => ?_)
  have hP : va_P D vwCl [(h0, .inr (4, [.int (k9 + 1), .ref td, .int 0])), (h1, .inl (ty 0, 2, .inl f0))] H := hP
  have hD : va_D A [(h0, .inr (4, [.int (k9 + 1), .ref td, .int 0])), (h1, .inl (ty 0, 2, .inl f0))] := hD
  refine lv_aload_n hx hb dJx4a65c_add_9ea2d_10 rfl (lv_at hl 0 rfl) ?_
  refine lv_aload_n hx hb dJx4a65c_add_9ea2d_11 rfl (lv_at hl 1 rfl) ?_
  refine lv_aload_n hx hb dJx4a65c_add_9ea2d_12 rfl (lv_at hl 0 rfl) ?_
  refine va_get (D := D) (ci := 4) (v := .ref td) (C := RJx4a65c) (T := TJx4a65c) (N := 3) hx hb hts iv_k_add1_ints_Jx4a65c hown hK hP 0 rfl rfl 1 (by decide) (hts (.fieldLink RJx4a65c 9 "java/util/ArrayList" "elementData" "[Ljava/lang/Object;") (by decide +kernel)) (fun _ h9 => h9) rfl dJx4a65c_add_9ea2d_13 ?_
  refine lv_aload_n hx hb dJx4a65c_add_9ea2d_16 rfl (lv_at hl 0 rfl) ?_
  refine va_get (D := D) (ci := 4) (v := .int 0) (C := RJx4a65c) (T := TJx4a65c) (N := 3) hx hb hts iv_k_add1_ints_Jx4a65c hown hK hP 0 rfl rfl 2 (by decide) (hts (.fieldLink RJx4a65c 48 "java/util/ArrayList" "size" "I") (by decide +kernel)) (fun _ h9 => h9) rfl dJx4a65c_add_9ea2d_17 ?_
  refine wq_v (wc := [(h0, .inr (4, [.int (k9 + 1), .ref td, .int 0])), (h1, .inl (ty 0, 2, .inl f0))]) (wr := []) (va_runV (As := [.ref h1, .ref td, .int 0]) (rest := []) ⟨hx, hb, hml, hown, hts⟩ (k_add3_ints l D ty td mi H.size h0 (k9 + 1) h1 f0) (cwV 3 hts gv_k_add1_ints_0 rfl rfl rfl (by decide +kernel) ⟨(Nat.le_of_ble_eq_true rfl), (Nat.le_of_ble_eq_true rfl)⟩) (wq_preV hP hD hK hE hS hA [0, 1] rfl (by decide) 0 4 rfl rfl) rfl rfl hl.1 rfl (lv_room (Nat.le_of_ble_eq_true rfl)) dJx4a65c_add_9ea2d_20 ⟨(Nat.le_of_ble_eq_true rfl), (Nat.le_of_ble_eq_true rfl)⟩) hS hA hP hD [0, 1] [] rfl rfl (by decide) (by decide) (fun u H locs hw hP hD hS => ?_)
  obtain ⟨q114, rfl⟩ := hw
  have hP : va_P D vwCl [(h1, .inl (ty 0, 2, .inl f0)), (h0, .inr (4, [.int (k9 + 1), .ref q114, .int 1])), (q114, .inl (ty 6, 10, .inr (.inr (.inr (.inr (va_up (fun _ => none) (0 : Int32).toNatClampNeg (some h1)))))))] H := hP
  have hD : va_D A [(h1, .inl (ty 0, 2, .inl f0)), (h0, .inr (4, [.int (k9 + 1), .ref q114, .int 1])), (q114, .inl (ty 6, 10, .inr (.inr (.inr (.inr (va_up (fun _ => none) (0 : Int32).toNatClampNeg (some h1)))))))] := hD
  refine W.widen (k := 1) (n := 10) (Nat.le_of_ble_eq_true rfl) (Nat.le_of_ble_eq_true rfl) ?_
  refine lv_iconst (v := 1) hx hb dJx4a65c_add_9ea2d_23 (by decide) ?_
  have hP9 := hP.sub (ws' := [(h1, .inl (ty 0, 2, .inl f0)), (h0, .inr (4, [.int (k9 + 1), .ref q114, .int 1])), (q114, .inl (ty 6, 10, .inr (.inr (.inr (.inr (va_up (fun _ => none) (0 : Int32).toNatClampNeg (some h1)))))))]) [0, 1, 2] rfl
  have hD9 := hD.sub (ws' := [(h1, .inl (ty 0, 2, .inl f0)), (h0, .inr (4, [.int (k9 + 1), .ref q114, .int 1])), (q114, .inl (ty 6, 10, .inr (.inr (.inr (.inr (va_up (fun _ => none) (0 : Int32).toNatClampNeg (some h1)))))))]) [0, 1, 2] (by decide) rfl
  refine W.widen (k := 1) (n := 10) (Nat.le_of_ble_eq_true rfl) (Nat.le_of_ble_eq_true rfl) ?_
  exact W.zret (v := 1) hx hb hr rfl (fun t ht hW => ⟨⟨1, [(h1, .inl (ty 0, 2, .inl f0)), (h0, .inr (4, [.int (k9 + 1), .ref q114, .int 1])), (q114, .inl (ty 6, 10, .inr (.inr (.inr (.inr (va_up (fun _ => none) (0 : Int32).toNatClampNeg (some h1)))))))], rfl, ⟨q114, rfl, rfl⟩, wq_B.of ht hP9 hD9⟩, hS.F ht⟩) hS.2.2 dJx4a65c_add_9ea2d_24
def vs_k_X15_init_d : List Cond := .code yX15_init cX15_init 3 none :: ([.methodLink RX15 3 objectInit, .instanceMethod objectInit, .code objectInit ⟨#[0xb1]⟩ 1 none, .fieldLink RX15 9 "AnswerFoldModel$Rule" "span" "I", .classLink RX15 15 RJx4a65c, .instantiable RJx4a65c 3, .initialized RJx4a65c, .methodLink RX15 17 yJx4a65c_init_da8c8, .instanceMethod yJx4a65c_init_da8c8, .fieldLink RX15 18 "AnswerFoldModel$Rule" "heads" "Ljava/util/ArrayList;", .fieldLink RX15 22 "AnswerFoldModel$Rule" "body" "Ljava/util/ArrayList;", .fieldLink RX15 25 "AnswerFoldModel$Rule" "kind" "C", .fieldLink RX15 29 "AnswerFoldModel$Rule" "part" "I"] ++ (u_ws RX15 TX15 9 ++ (u_ws RJx4a65c TJx4a65c 3 ++ (vs_k_Jx4a65c_init_da8c8))))
theorem iv_k_X15_init_d_Jx4a65c : ∀ w ∈ u_ws RJx4a65c TJx4a65c 3, w ∈ vs_k_X15_init_d := (fun _ h => List.mem_cons_of_mem _ (List.mem_append_right _ (List.mem_append_right _ (List.mem_append_left _ h))))
theorem iv_k_X15_init_d_X15 : ∀ w ∈ u_ws RX15 TX15 9, w ∈ vs_k_X15_init_d := (fun _ h => List.mem_cons_of_mem _ (List.mem_append_right _ (List.mem_append_left _ h)))
set_option maxRecDepth 20000 in
theorem gv_k_X15_init_d_0 : GoodIn vs_k_X15_init_d (vs_k_Jx4a65c_init_da8c8) := (goodIn_sub (fun _ h => List.mem_cons_of_mem _ (List.mem_append_right _ (List.mem_append_right _ (List.mem_append_right _ (h))))) (by decide +kernel))
set_option maxRecDepth 20000 in
theorem gv_k_X15_init_d_1 : GoodIn vs_k_X15_init_d (vs_k_Jx4a65c_init_da8c8) := (goodIn_sub (fun _ h => List.mem_cons_of_mem _ (List.mem_append_right _ (List.mem_append_right _ (List.mem_append_right _ (h))))) (by decide +kernel))
set_option maxHeartbeats 4000000 in
set_option maxRecDepth 100000 in
theorem k_X15_init_d (l : Launch) (D : va_G) (ty : Nat → ClassId) (td mi sz : Nat) (h0 : Nat) (k1 : Int32) : Met l yX15_init vs_k_X15_init_d { frames := 4, cells := 2, slots := 6, locals := 72 } (va_Pc [.ref h0, .int 100, .int k1] (wq_P D ty td mi [(h0, .inr (19, [.int 0, .int 0, .int 0, .int 0, .int 0, .int 0, .int 0, .null, .null]))] sz)) (va_Qv (fun u : va_W => (∃ (q115 : Nat) (q116 : Nat), (u = [(h0, .inr (19, [.int 100, .int k1, .int 0, .int 0, .int (-1), .int 0, .int 0, .ref q115, .ref q116])), (q115, .inr (4, [.int 0, .ref td, .int 0])), (q116, .inr (4, [.int 0, .ref td, .int 0]))]))) (wq_B D (va_A [(h0, .inr (19, [.int 0, .int 0, .int 0, .int 0, .int 0, .int 0, .int 0, .null, .null]))] sz)) (va_A [(h0, .inr (19, [.int 0, .int 0, .int 0, .int 0, .int 0, .int 0, .int 0, .null, .null]))] sz)) 2 6 (va_A [(h0, .inr (19, [.int 0, .int 0, .int 0, .int 0, .int 0, .int 0, .int 0, .null, .null]))] sz) := by
  refine Met.ofW (cc := cX15_init) (maxL := 3) (ret := none) (by decide) rfl ?_
  intro p e s m args below meth c s₁ B hml hv
  obtain ⟨rfl, hsz, hP, hK, hD0, hE⟩ := hv
  have hx := B.exec
  have hb := B.bytes
  have hr := B.returns
  have hts := atoms_spec (ws := vs_k_X15_init_d) B.pre
  have hown : s.vm.findClass RX15 = some m.cls := findClass_of_methodNamed B.named
  have hlocks := B.notSynchronized
  have hin : meth.name = "<init>" := (name_of_methodNamed B.named B.method).1
  subst hsz
  have hD := hD0.self (sz := s.heap.size)
  generalize hAe : va_A [(h0, .inr (19, [.int 0, .int 0, .int 0, .int 0, .int 0, .int 0, .int 0, .null, .null]))] s.heap.size = A at hD hE ⊢
  have hA : ∀ q : Nat, s.heap.size ≤ q → A q := fun q h => by rw [← hAe]; exact Or.inr h
  have hS : va_S A s.heap s.heap [] := va_S.rf
  have hP : va_P D vwCl [(h0, .inr (19, [.int 0, .int 0, .int 0, .int 0, .int 0, .int 0, .int 0, .null, .null]))] s.heap := hP
  have hl := lv_entry ([.ref h0, .int 100, .int k1]) (n := 3) (Nat.le_of_ble_eq_true rfl)
  rw [lg_entry_eq]
  generalize (lg_sl ([.ref h0, .int 100, .int k1]) ++ List.replicate (3 - (lg_sl ([.ref h0, .int 100, .int k1])).length) Slot.unset).toArray = ls at hl ⊢
  have hl : lv_has ls 3 [(0, .ref h0), (1, .int 100), (2, .int k1)] := hl
  refine lv_aload_n hx hb dX15_init_0 rfl (lv_at hl 0 rfl) ?_
  refine W.objInit hx hb hown (hts (.methodLink RX15 3 objectInit) (by decide +kernel)) (hts (.instanceMethod objectInit) (by decide +kernel)) (hts (.code objectInit ⟨#[0xb1]⟩ 1 none) (by decide +kernel)) rfl (by rw [hml]; exact hl.1) rfl dX15_init_1 (Nat.le_of_ble_eq_true rfl) (Nat.le_of_ble_eq_true rfl) ?_
  refine W.eq (g2 := F0 m 4 ls []) rfl ?_
  refine lv_aload_n hx hb dX15_init_4 rfl (lv_at hl 0 rfl) ?_
  refine lv_iconst (v := (-1)) hx hb dX15_init_5 (by decide) ?_
  refine va_put (D := D) (ci := 19) (v := .int (-1)) (ty := tyX15 4) (C := RX15) (T := TX15) (N := 9) hx hb hts iv_k_X15_init_d_X15 tyX15 tyX15_ok nmX15 hown hK hP hD hS 0 rfl rfl 4 (by decide) (hts (.fieldLink RX15 9 "AnswerFoldModel$Rule" "span" "I") (by decide +kernel)) (fun _ h9 => h9) rfl (by decide +kernel) rfl rfl (Nat.le_of_ble_eq_true rfl) dX15_init_6 (fun H locs hP hD hS => ?_)
  have hP : va_P D vwCl [(h0, .inr (19, [.int 0, .int 0, .int 0, .int 0, .int (-1), .int 0, .int 0, .null, .null]))] H := hP
  have hD : va_D A [(h0, .inr (19, [.int 0, .int 0, .int 0, .int 0, .int (-1), .int 0, .int 0, .null, .null]))] := hD
  refine lv_aload_n hx hb dX15_init_9 rfl (lv_at hl 0 rfl) ?_
  refine va_new (ci := 4) (fs := [.int 0, .null, .int 0]) (C := RJx4a65c) (T := TJx4a65c) (N := 3) hx hb hts iv_k_X15_init_d_Jx4a65c tyJx4a65c tyJx4a65c_ok hown (hts (.classLink RX15 15 RJx4a65c) (by decide +kernel)) (hts (.instantiable RJx4a65c 3) (by decide +kernel)) (hts (.initialized RJx4a65c) (by decide +kernel)) hK hP hD hS hA rfl (fun j hj => by rcases (show j = 0 ∨ j = 1 ∨ j = 2 by omega) with rfl | rfl | rfl <;> rfl) (Nat.le_of_ble_eq_true rfl) (Nat.le_of_ble_eq_true rfl) dX15_init_10 (fun q115 H hP hD hS => ?_)
  have hP : va_P D vwCl [(h0, .inr (19, [.int 0, .int 0, .int 0, .int 0, .int (-1), .int 0, .int 0, .null, .null])), (q115, .inr (4, [.int 0, .null, .int 0]))] H := hP
  have hD : va_D A [(h0, .inr (19, [.int 0, .int 0, .int 0, .int 0, .int (-1), .int 0, .int 0, .null, .null])), (q115, .inr (4, [.int 0, .null, .int 0]))] := hD
  refine W.widen (k := 1) (n := 3) (Nat.le_of_ble_eq_true rfl) (Nat.le_of_ble_eq_true rfl) ?_
  refine lv_dup hx hb dX15_init_13 rfl ?_
  refine wq_v (wc := [(q115, .inr (4, [.int 0, .null, .int 0]))]) (wr := [(h0, .inr (19, [.int 0, .int 0, .int 0, .int 0, .int (-1), .int 0, .int 0, .null, .null]))]) (va_runI (As := []) (rest := [.ref q115, .ref h0]) ⟨hx, hb, hml, hown, hts⟩ (k_Jx4a65c_init_da8c8 l D ty td mi H.size q115) (cwI 0 hts gv_k_X15_init_d_0 rfl rfl rfl (hts (.initialized RJx4a65c) (by decide +kernel)) (hts (.methodLink RX15 17 yJx4a65c_init_da8c8) (by decide +kernel)) (hts (.instanceMethod yJx4a65c_init_da8c8) (by decide +kernel)) rfl (by decide +kernel) ⟨(Nat.le_of_ble_eq_true rfl), (Nat.le_of_ble_eq_true rfl)⟩) (wq_preS hP hD hK hE hS hA [1] rfl (by decide)) rfl rfl hl.1 rfl (lv_room (Nat.le_of_ble_eq_true rfl)) dX15_init_14 ⟨(Nat.le_of_ble_eq_true rfl), (Nat.le_of_ble_eq_true rfl)⟩) hS hA hP hD [1] [0] rfl rfl (by decide) (by decide) (fun u H locs hw hP hD hS => ?_)
  obtain rfl := hw
  have hP : va_P D vwCl [(h0, .inr (19, [.int 0, .int 0, .int 0, .int 0, .int (-1), .int 0, .int 0, .null, .null])), (q115, .inr (4, [.int 0, .ref td, .int 0]))] H := hP
  have hD : va_D A [(h0, .inr (19, [.int 0, .int 0, .int 0, .int 0, .int (-1), .int 0, .int 0, .null, .null])), (q115, .inr (4, [.int 0, .ref td, .int 0]))] := hD
  refine W.widen (k := 1) (n := 3) (Nat.le_of_ble_eq_true rfl) (Nat.le_of_ble_eq_true rfl) ?_
  refine va_putF (D := D) (ci := 19) (v := .ref q115) (ty := tyX15 7) (C := RX15) (T := TX15) (N := 9) hx hb hts iv_k_X15_init_d_X15 tyX15 tyX15_ok nmX15 hown hK hP hD hS 0 rfl rfl 7 (by decide) (hts (.fieldLink RX15 18 "AnswerFoldModel$Rule" "heads" "Ljava/util/ArrayList;") (by decide +kernel)) (fun _ h9 => h9) rfl hin rfl (by decide +kernel) rfl rfl (Nat.le_of_ble_eq_true rfl) dX15_init_17 (fun H locs hP hD hS => ?_)
  have hP : va_P D vwCl [(h0, .inr (19, [.int 0, .int 0, .int 0, .int 0, .int (-1), .int 0, .int 0, .ref q115, .null])), (q115, .inr (4, [.int 0, .ref td, .int 0]))] H := hP
  have hD : va_D A [(h0, .inr (19, [.int 0, .int 0, .int 0, .int 0, .int (-1), .int 0, .int 0, .ref q115, .null])), (q115, .inr (4, [.int 0, .ref td, .int 0]))] := hD
  refine lv_aload_n hx hb dX15_init_20 rfl (lv_at hl 0 rfl) ?_
  refine va_new (ci := 4) (fs := [.int 0, .null, .int 0]) (C := RJx4a65c) (T := TJx4a65c) (N := 3) hx hb hts iv_k_X15_init_d_Jx4a65c tyJx4a65c tyJx4a65c_ok hown (hts (.classLink RX15 15 RJx4a65c) (by decide +kernel)) (hts (.instantiable RJx4a65c 3) (by decide +kernel)) (hts (.initialized RJx4a65c) (by decide +kernel)) hK hP hD hS hA rfl (fun j hj => by rcases (show j = 0 ∨ j = 1 ∨ j = 2 by omega) with rfl | rfl | rfl <;> rfl) (Nat.le_of_ble_eq_true rfl) (Nat.le_of_ble_eq_true rfl) dX15_init_21 (fun q116 H hP hD hS => ?_)
  have hP : va_P D vwCl [(h0, .inr (19, [.int 0, .int 0, .int 0, .int 0, .int (-1), .int 0, .int 0, .ref q115, .null])), (q115, .inr (4, [.int 0, .ref td, .int 0])), (q116, .inr (4, [.int 0, .null, .int 0]))] H := hP
  have hD : va_D A [(h0, .inr (19, [.int 0, .int 0, .int 0, .int 0, .int (-1), .int 0, .int 0, .ref q115, .null])), (q115, .inr (4, [.int 0, .ref td, .int 0])), (q116, .inr (4, [.int 0, .null, .int 0]))] := hD
  refine W.widen (k := 2) (n := 6) (Nat.le_of_ble_eq_true rfl) (Nat.le_of_ble_eq_true rfl) ?_
  refine lv_dup hx hb dX15_init_24 rfl ?_
  refine wq_v (wc := [(q116, .inr (4, [.int 0, .null, .int 0]))]) (wr := [(h0, .inr (19, [.int 0, .int 0, .int 0, .int 0, .int (-1), .int 0, .int 0, .ref q115, .null])), (q115, .inr (4, [.int 0, .ref td, .int 0]))]) (va_runI (As := []) (rest := [.ref q116, .ref h0]) ⟨hx, hb, hml, hown, hts⟩ (k_Jx4a65c_init_da8c8 l D ty td mi H.size q116) (cwI 0 hts gv_k_X15_init_d_1 rfl rfl rfl (hts (.initialized RJx4a65c) (by decide +kernel)) (hts (.methodLink RX15 17 yJx4a65c_init_da8c8) (by decide +kernel)) (hts (.instanceMethod yJx4a65c_init_da8c8) (by decide +kernel)) rfl (by decide +kernel) ⟨(Nat.le_of_ble_eq_true rfl), (Nat.le_of_ble_eq_true rfl)⟩) (wq_preS hP hD hK hE hS hA [2] rfl (by decide)) rfl rfl hl.1 rfl (lv_room (Nat.le_of_ble_eq_true rfl)) dX15_init_25 ⟨(Nat.le_of_ble_eq_true rfl), (Nat.le_of_ble_eq_true rfl)⟩) hS hA hP hD [2] [0, 1] rfl rfl (by decide) (by decide) (fun u H locs hw hP hD hS => ?_)
  obtain rfl := hw
  have hP : va_P D vwCl [(h0, .inr (19, [.int 0, .int 0, .int 0, .int 0, .int (-1), .int 0, .int 0, .ref q115, .null])), (q115, .inr (4, [.int 0, .ref td, .int 0])), (q116, .inr (4, [.int 0, .ref td, .int 0]))] H := hP
  have hD : va_D A [(h0, .inr (19, [.int 0, .int 0, .int 0, .int 0, .int (-1), .int 0, .int 0, .ref q115, .null])), (q115, .inr (4, [.int 0, .ref td, .int 0])), (q116, .inr (4, [.int 0, .ref td, .int 0]))] := hD
  refine W.widen (k := 2) (n := 6) (Nat.le_of_ble_eq_true rfl) (Nat.le_of_ble_eq_true rfl) ?_
  refine va_putF (D := D) (ci := 19) (v := .ref q116) (ty := tyX15 8) (C := RX15) (T := TX15) (N := 9) hx hb hts iv_k_X15_init_d_X15 tyX15 tyX15_ok nmX15 hown hK hP hD hS 0 rfl rfl 8 (by decide) (hts (.fieldLink RX15 22 "AnswerFoldModel$Rule" "body" "Ljava/util/ArrayList;") (by decide +kernel)) (fun _ h9 => h9) rfl hin rfl (by decide +kernel) rfl rfl (Nat.le_of_ble_eq_true rfl) dX15_init_28 (fun H locs hP hD hS => ?_)
  have hP : va_P D vwCl [(h0, .inr (19, [.int 0, .int 0, .int 0, .int 0, .int (-1), .int 0, .int 0, .ref q115, .ref q116])), (q115, .inr (4, [.int 0, .ref td, .int 0])), (q116, .inr (4, [.int 0, .ref td, .int 0]))] H := hP
  have hD : va_D A [(h0, .inr (19, [.int 0, .int 0, .int 0, .int 0, .int (-1), .int 0, .int 0, .ref q115, .ref q116])), (q115, .inr (4, [.int 0, .ref td, .int 0])), (q116, .inr (4, [.int 0, .ref td, .int 0]))] := hD
  refine lv_aload_n hx hb dX15_init_31 rfl (lv_at hl 0 rfl) ?_
  refine lv_iload_n hx hb dX15_init_32 rfl (lv_at hl 1 rfl) ?_
  refine va_putF (D := D) (ci := 19) (v := .int 100) (ty := tyX15 0) (C := RX15) (T := TX15) (N := 9) hx hb hts iv_k_X15_init_d_X15 tyX15 tyX15_ok nmX15 hown hK hP hD hS 0 rfl rfl 0 (by decide) (hts (.fieldLink RX15 25 "AnswerFoldModel$Rule" "kind" "C") (by decide +kernel)) (fun _ h9 => h9) rfl hin rfl (by decide +kernel) rfl rfl (Nat.le_of_ble_eq_true rfl) dX15_init_33 (fun H locs hP hD hS => ?_)
  have hP : va_P D vwCl [(h0, .inr (19, [.int 100, .int 0, .int 0, .int 0, .int (-1), .int 0, .int 0, .ref q115, .ref q116])), (q115, .inr (4, [.int 0, .ref td, .int 0])), (q116, .inr (4, [.int 0, .ref td, .int 0]))] H := hP
  have hD : va_D A [(h0, .inr (19, [.int 100, .int 0, .int 0, .int 0, .int (-1), .int 0, .int 0, .ref q115, .ref q116])), (q115, .inr (4, [.int 0, .ref td, .int 0])), (q116, .inr (4, [.int 0, .ref td, .int 0]))] := hD
  refine lv_aload_n hx hb dX15_init_36 rfl (lv_at hl 0 rfl) ?_
  refine lv_iload_n hx hb dX15_init_37 rfl (lv_at hl 2 rfl) ?_
  refine va_putF (D := D) (ci := 19) (v := .int k1) (ty := tyX15 1) (C := RX15) (T := TX15) (N := 9) hx hb hts iv_k_X15_init_d_X15 tyX15 tyX15_ok nmX15 hown hK hP hD hS 0 rfl rfl 1 (by decide) (hts (.fieldLink RX15 29 "AnswerFoldModel$Rule" "part" "I") (by decide +kernel)) (fun _ h9 => h9) rfl hin rfl (by decide +kernel) rfl rfl (Nat.le_of_ble_eq_true rfl) dX15_init_38 (fun H locs hP hD hS => ?_)
  have hP : va_P D vwCl [(h0, .inr (19, [.int 100, .int k1, .int 0, .int 0, .int (-1), .int 0, .int 0, .ref q115, .ref q116])), (q115, .inr (4, [.int 0, .ref td, .int 0])), (q116, .inr (4, [.int 0, .ref td, .int 0]))] H := hP
  have hD : va_D A [(h0, .inr (19, [.int 100, .int k1, .int 0, .int 0, .int (-1), .int 0, .int 0, .ref q115, .ref q116])), (q115, .inr (4, [.int 0, .ref td, .int 0])), (q116, .inr (4, [.int 0, .ref td, .int 0]))] := hD
  have hP9 := hP.sub (ws' := [(h0, .inr (19, [.int 100, .int k1, .int 0, .int 0, .int (-1), .int 0, .int 0, .ref q115, .ref q116])), (q115, .inr (4, [.int 0, .ref td, .int 0])), (q116, .inr (4, [.int 0, .ref td, .int 0]))]) [0, 1, 2] rfl
  have hD9 := hD.sub (ws' := [(h0, .inr (19, [.int 100, .int k1, .int 0, .int 0, .int (-1), .int 0, .int 0, .ref q115, .ref q116])), (q115, .inr (4, [.int 0, .ref td, .int 0])), (q116, .inr (4, [.int 0, .ref td, .int 0]))]) [0, 1, 2] (by decide) rfl
  refine W.widen (k := 2) (n := 6) (Nat.le_of_ble_eq_true rfl) (Nat.le_of_ble_eq_true rfl) ?_
  exact W.vret hx hb hr (fun t ht hW => ⟨⟨[(h0, .inr (19, [.int 100, .int k1, .int 0, .int 0, .int (-1), .int 0, .int 0, .ref q115, .ref q116])), (q115, .inr (4, [.int 0, .ref td, .int 0])), (q116, .inr (4, [.int 0, .ref td, .int 0]))], rfl, ⟨q115, q116, rfl⟩, wq_B.of ht hP9 hD9⟩, hS.F ht⟩) hS.2.2 dX15_init_41
def vs_k_X15_init_c : List Cond := .code yX15_init cX15_init 3 none :: ([.methodLink RX15 3 objectInit, .instanceMethod objectInit, .code objectInit ⟨#[0xb1]⟩ 1 none, .fieldLink RX15 9 "AnswerFoldModel$Rule" "span" "I", .classLink RX15 15 RJx4a65c, .instantiable RJx4a65c 3, .initialized RJx4a65c, .methodLink RX15 17 yJx4a65c_init_da8c8, .instanceMethod yJx4a65c_init_da8c8, .fieldLink RX15 18 "AnswerFoldModel$Rule" "heads" "Ljava/util/ArrayList;", .fieldLink RX15 22 "AnswerFoldModel$Rule" "body" "Ljava/util/ArrayList;", .fieldLink RX15 25 "AnswerFoldModel$Rule" "kind" "C", .fieldLink RX15 29 "AnswerFoldModel$Rule" "part" "I"] ++ (u_ws RX15 TX15 9 ++ (u_ws RJx4a65c TJx4a65c 3 ++ (vs_k_Jx4a65c_init_da8c8))))
theorem iv_k_X15_init_c_Jx4a65c : ∀ w ∈ u_ws RJx4a65c TJx4a65c 3, w ∈ vs_k_X15_init_c := (fun _ h => List.mem_cons_of_mem _ (List.mem_append_right _ (List.mem_append_right _ (List.mem_append_left _ h))))
theorem iv_k_X15_init_c_X15 : ∀ w ∈ u_ws RX15 TX15 9, w ∈ vs_k_X15_init_c := (fun _ h => List.mem_cons_of_mem _ (List.mem_append_right _ (List.mem_append_left _ h)))
set_option maxRecDepth 20000 in
theorem gv_k_X15_init_c_0 : GoodIn vs_k_X15_init_c (vs_k_Jx4a65c_init_da8c8) := (goodIn_sub (fun _ h => List.mem_cons_of_mem _ (List.mem_append_right _ (List.mem_append_right _ (List.mem_append_right _ (h))))) (by decide +kernel))
set_option maxRecDepth 20000 in
theorem gv_k_X15_init_c_1 : GoodIn vs_k_X15_init_c (vs_k_Jx4a65c_init_da8c8) := (goodIn_sub (fun _ h => List.mem_cons_of_mem _ (List.mem_append_right _ (List.mem_append_right _ (List.mem_append_right _ (h))))) (by decide +kernel))
set_option maxHeartbeats 4000000 in
set_option maxRecDepth 100000 in
theorem k_X15_init_c (l : Launch) (D : va_G) (ty : Nat → ClassId) (td mi sz : Nat) (h0 : Nat) (k1 : Int32) : Met l yX15_init vs_k_X15_init_c { frames := 4, cells := 2, slots := 6, locals := 72 } (va_Pc [.ref h0, .int 99, .int k1] (wq_P D ty td mi [(h0, .inr (19, [.int 0, .int 0, .int 0, .int 0, .int 0, .int 0, .int 0, .null, .null]))] sz)) (va_Qv (fun u : va_W => (∃ (q117 : Nat) (q118 : Nat), (u = [(h0, .inr (19, [.int 99, .int k1, .int 0, .int 0, .int (-1), .int 0, .int 0, .ref q117, .ref q118])), (q117, .inr (4, [.int 0, .ref td, .int 0])), (q118, .inr (4, [.int 0, .ref td, .int 0]))]))) (wq_B D (va_A [(h0, .inr (19, [.int 0, .int 0, .int 0, .int 0, .int 0, .int 0, .int 0, .null, .null]))] sz)) (va_A [(h0, .inr (19, [.int 0, .int 0, .int 0, .int 0, .int 0, .int 0, .int 0, .null, .null]))] sz)) 2 6 (va_A [(h0, .inr (19, [.int 0, .int 0, .int 0, .int 0, .int 0, .int 0, .int 0, .null, .null]))] sz) := by
  refine Met.ofW (cc := cX15_init) (maxL := 3) (ret := none) (by decide) rfl ?_
  intro p e s m args below meth c s₁ B hml hv
  obtain ⟨rfl, hsz, hP, hK, hD0, hE⟩ := hv
  have hx := B.exec
  have hb := B.bytes
  have hr := B.returns
  have hts := atoms_spec (ws := vs_k_X15_init_c) B.pre
  have hown : s.vm.findClass RX15 = some m.cls := findClass_of_methodNamed B.named
  have hlocks := B.notSynchronized
  have hin : meth.name = "<init>" := (name_of_methodNamed B.named B.method).1
  subst hsz
  have hD := hD0.self (sz := s.heap.size)
  generalize hAe : va_A [(h0, .inr (19, [.int 0, .int 0, .int 0, .int 0, .int 0, .int 0, .int 0, .null, .null]))] s.heap.size = A at hD hE ⊢
  have hA : ∀ q : Nat, s.heap.size ≤ q → A q := fun q h => by rw [← hAe]; exact Or.inr h
  have hS : va_S A s.heap s.heap [] := va_S.rf
  have hP : va_P D vwCl [(h0, .inr (19, [.int 0, .int 0, .int 0, .int 0, .int 0, .int 0, .int 0, .null, .null]))] s.heap := hP
  have hl := lv_entry ([.ref h0, .int 99, .int k1]) (n := 3) (Nat.le_of_ble_eq_true rfl)
  rw [lg_entry_eq]
  generalize (lg_sl ([.ref h0, .int 99, .int k1]) ++ List.replicate (3 - (lg_sl ([.ref h0, .int 99, .int k1])).length) Slot.unset).toArray = ls at hl ⊢
  have hl : lv_has ls 3 [(0, .ref h0), (1, .int 99), (2, .int k1)] := hl
  refine lv_aload_n hx hb dX15_init_0 rfl (lv_at hl 0 rfl) ?_
  refine W.objInit hx hb hown (hts (.methodLink RX15 3 objectInit) (by decide +kernel)) (hts (.instanceMethod objectInit) (by decide +kernel)) (hts (.code objectInit ⟨#[0xb1]⟩ 1 none) (by decide +kernel)) rfl (by rw [hml]; exact hl.1) rfl dX15_init_1 (Nat.le_of_ble_eq_true rfl) (Nat.le_of_ble_eq_true rfl) ?_
  refine W.eq (g2 := F0 m 4 ls []) rfl ?_
  refine lv_aload_n hx hb dX15_init_4 rfl (lv_at hl 0 rfl) ?_
  refine lv_iconst (v := (-1)) hx hb dX15_init_5 (by decide) ?_
  refine va_put (D := D) (ci := 19) (v := .int (-1)) (ty := tyX15 4) (C := RX15) (T := TX15) (N := 9) hx hb hts iv_k_X15_init_c_X15 tyX15 tyX15_ok nmX15 hown hK hP hD hS 0 rfl rfl 4 (by decide) (hts (.fieldLink RX15 9 "AnswerFoldModel$Rule" "span" "I") (by decide +kernel)) (fun _ h9 => h9) rfl (by decide +kernel) rfl rfl (Nat.le_of_ble_eq_true rfl) dX15_init_6 (fun H locs hP hD hS => ?_)
  have hP : va_P D vwCl [(h0, .inr (19, [.int 0, .int 0, .int 0, .int 0, .int (-1), .int 0, .int 0, .null, .null]))] H := hP
  have hD : va_D A [(h0, .inr (19, [.int 0, .int 0, .int 0, .int 0, .int (-1), .int 0, .int 0, .null, .null]))] := hD
  refine lv_aload_n hx hb dX15_init_9 rfl (lv_at hl 0 rfl) ?_
  refine va_new (ci := 4) (fs := [.int 0, .null, .int 0]) (C := RJx4a65c) (T := TJx4a65c) (N := 3) hx hb hts iv_k_X15_init_c_Jx4a65c tyJx4a65c tyJx4a65c_ok hown (hts (.classLink RX15 15 RJx4a65c) (by decide +kernel)) (hts (.instantiable RJx4a65c 3) (by decide +kernel)) (hts (.initialized RJx4a65c) (by decide +kernel)) hK hP hD hS hA rfl (fun j hj => by rcases (show j = 0 ∨ j = 1 ∨ j = 2 by omega) with rfl | rfl | rfl <;> rfl) (Nat.le_of_ble_eq_true rfl) (Nat.le_of_ble_eq_true rfl) dX15_init_10 (fun q117 H hP hD hS => ?_)
  have hP : va_P D vwCl [(h0, .inr (19, [.int 0, .int 0, .int 0, .int 0, .int (-1), .int 0, .int 0, .null, .null])), (q117, .inr (4, [.int 0, .null, .int 0]))] H := hP
  have hD : va_D A [(h0, .inr (19, [.int 0, .int 0, .int 0, .int 0, .int (-1), .int 0, .int 0, .null, .null])), (q117, .inr (4, [.int 0, .null, .int 0]))] := hD
  refine W.widen (k := 1) (n := 3) (Nat.le_of_ble_eq_true rfl) (Nat.le_of_ble_eq_true rfl) ?_
  refine lv_dup hx hb dX15_init_13 rfl ?_
  refine wq_v (wc := [(q117, .inr (4, [.int 0, .null, .int 0]))]) (wr := [(h0, .inr (19, [.int 0, .int 0, .int 0, .int 0, .int (-1), .int 0, .int 0, .null, .null]))]) (va_runI (As := []) (rest := [.ref q117, .ref h0]) ⟨hx, hb, hml, hown, hts⟩ (k_Jx4a65c_init_da8c8 l D ty td mi H.size q117) (cwI 0 hts gv_k_X15_init_c_0 rfl rfl rfl (hts (.initialized RJx4a65c) (by decide +kernel)) (hts (.methodLink RX15 17 yJx4a65c_init_da8c8) (by decide +kernel)) (hts (.instanceMethod yJx4a65c_init_da8c8) (by decide +kernel)) rfl (by decide +kernel) ⟨(Nat.le_of_ble_eq_true rfl), (Nat.le_of_ble_eq_true rfl)⟩) (wq_preS hP hD hK hE hS hA [1] rfl (by decide)) rfl rfl hl.1 rfl (lv_room (Nat.le_of_ble_eq_true rfl)) dX15_init_14 ⟨(Nat.le_of_ble_eq_true rfl), (Nat.le_of_ble_eq_true rfl)⟩) hS hA hP hD [1] [0] rfl rfl (by decide) (by decide) (fun u H locs hw hP hD hS => ?_)
  obtain rfl := hw
  have hP : va_P D vwCl [(h0, .inr (19, [.int 0, .int 0, .int 0, .int 0, .int (-1), .int 0, .int 0, .null, .null])), (q117, .inr (4, [.int 0, .ref td, .int 0]))] H := hP
  have hD : va_D A [(h0, .inr (19, [.int 0, .int 0, .int 0, .int 0, .int (-1), .int 0, .int 0, .null, .null])), (q117, .inr (4, [.int 0, .ref td, .int 0]))] := hD
  refine W.widen (k := 1) (n := 3) (Nat.le_of_ble_eq_true rfl) (Nat.le_of_ble_eq_true rfl) ?_
  refine va_putF (D := D) (ci := 19) (v := .ref q117) (ty := tyX15 7) (C := RX15) (T := TX15) (N := 9) hx hb hts iv_k_X15_init_c_X15 tyX15 tyX15_ok nmX15 hown hK hP hD hS 0 rfl rfl 7 (by decide) (hts (.fieldLink RX15 18 "AnswerFoldModel$Rule" "heads" "Ljava/util/ArrayList;") (by decide +kernel)) (fun _ h9 => h9) rfl hin rfl (by decide +kernel) rfl rfl (Nat.le_of_ble_eq_true rfl) dX15_init_17 (fun H locs hP hD hS => ?_)
  have hP : va_P D vwCl [(h0, .inr (19, [.int 0, .int 0, .int 0, .int 0, .int (-1), .int 0, .int 0, .ref q117, .null])), (q117, .inr (4, [.int 0, .ref td, .int 0]))] H := hP
  have hD : va_D A [(h0, .inr (19, [.int 0, .int 0, .int 0, .int 0, .int (-1), .int 0, .int 0, .ref q117, .null])), (q117, .inr (4, [.int 0, .ref td, .int 0]))] := hD
  refine lv_aload_n hx hb dX15_init_20 rfl (lv_at hl 0 rfl) ?_
  refine va_new (ci := 4) (fs := [.int 0, .null, .int 0]) (C := RJx4a65c) (T := TJx4a65c) (N := 3) hx hb hts iv_k_X15_init_c_Jx4a65c tyJx4a65c tyJx4a65c_ok hown (hts (.classLink RX15 15 RJx4a65c) (by decide +kernel)) (hts (.instantiable RJx4a65c 3) (by decide +kernel)) (hts (.initialized RJx4a65c) (by decide +kernel)) hK hP hD hS hA rfl (fun j hj => by rcases (show j = 0 ∨ j = 1 ∨ j = 2 by omega) with rfl | rfl | rfl <;> rfl) (Nat.le_of_ble_eq_true rfl) (Nat.le_of_ble_eq_true rfl) dX15_init_21 (fun q118 H hP hD hS => ?_)
  have hP : va_P D vwCl [(h0, .inr (19, [.int 0, .int 0, .int 0, .int 0, .int (-1), .int 0, .int 0, .ref q117, .null])), (q117, .inr (4, [.int 0, .ref td, .int 0])), (q118, .inr (4, [.int 0, .null, .int 0]))] H := hP
  have hD : va_D A [(h0, .inr (19, [.int 0, .int 0, .int 0, .int 0, .int (-1), .int 0, .int 0, .ref q117, .null])), (q117, .inr (4, [.int 0, .ref td, .int 0])), (q118, .inr (4, [.int 0, .null, .int 0]))] := hD
  refine W.widen (k := 2) (n := 6) (Nat.le_of_ble_eq_true rfl) (Nat.le_of_ble_eq_true rfl) ?_
  refine lv_dup hx hb dX15_init_24 rfl ?_
  refine wq_v (wc := [(q118, .inr (4, [.int 0, .null, .int 0]))]) (wr := [(h0, .inr (19, [.int 0, .int 0, .int 0, .int 0, .int (-1), .int 0, .int 0, .ref q117, .null])), (q117, .inr (4, [.int 0, .ref td, .int 0]))]) (va_runI (As := []) (rest := [.ref q118, .ref h0]) ⟨hx, hb, hml, hown, hts⟩ (k_Jx4a65c_init_da8c8 l D ty td mi H.size q118) (cwI 0 hts gv_k_X15_init_c_1 rfl rfl rfl (hts (.initialized RJx4a65c) (by decide +kernel)) (hts (.methodLink RX15 17 yJx4a65c_init_da8c8) (by decide +kernel)) (hts (.instanceMethod yJx4a65c_init_da8c8) (by decide +kernel)) rfl (by decide +kernel) ⟨(Nat.le_of_ble_eq_true rfl), (Nat.le_of_ble_eq_true rfl)⟩) (wq_preS hP hD hK hE hS hA [2] rfl (by decide)) rfl rfl hl.1 rfl (lv_room (Nat.le_of_ble_eq_true rfl)) dX15_init_25 ⟨(Nat.le_of_ble_eq_true rfl), (Nat.le_of_ble_eq_true rfl)⟩) hS hA hP hD [2] [0, 1] rfl rfl (by decide) (by decide) (fun u H locs hw hP hD hS => ?_)
  obtain rfl := hw
  have hP : va_P D vwCl [(h0, .inr (19, [.int 0, .int 0, .int 0, .int 0, .int (-1), .int 0, .int 0, .ref q117, .null])), (q117, .inr (4, [.int 0, .ref td, .int 0])), (q118, .inr (4, [.int 0, .ref td, .int 0]))] H := hP
  have hD : va_D A [(h0, .inr (19, [.int 0, .int 0, .int 0, .int 0, .int (-1), .int 0, .int 0, .ref q117, .null])), (q117, .inr (4, [.int 0, .ref td, .int 0])), (q118, .inr (4, [.int 0, .ref td, .int 0]))] := hD
  refine W.widen (k := 2) (n := 6) (Nat.le_of_ble_eq_true rfl) (Nat.le_of_ble_eq_true rfl) ?_
  refine va_putF (D := D) (ci := 19) (v := .ref q118) (ty := tyX15 8) (C := RX15) (T := TX15) (N := 9) hx hb hts iv_k_X15_init_c_X15 tyX15 tyX15_ok nmX15 hown hK hP hD hS 0 rfl rfl 8 (by decide) (hts (.fieldLink RX15 22 "AnswerFoldModel$Rule" "body" "Ljava/util/ArrayList;") (by decide +kernel)) (fun _ h9 => h9) rfl hin rfl (by decide +kernel) rfl rfl (Nat.le_of_ble_eq_true rfl) dX15_init_28 (fun H locs hP hD hS => ?_)
  have hP : va_P D vwCl [(h0, .inr (19, [.int 0, .int 0, .int 0, .int 0, .int (-1), .int 0, .int 0, .ref q117, .ref q118])), (q117, .inr (4, [.int 0, .ref td, .int 0])), (q118, .inr (4, [.int 0, .ref td, .int 0]))] H := hP
  have hD : va_D A [(h0, .inr (19, [.int 0, .int 0, .int 0, .int 0, .int (-1), .int 0, .int 0, .ref q117, .ref q118])), (q117, .inr (4, [.int 0, .ref td, .int 0])), (q118, .inr (4, [.int 0, .ref td, .int 0]))] := hD
  refine lv_aload_n hx hb dX15_init_31 rfl (lv_at hl 0 rfl) ?_
  refine lv_iload_n hx hb dX15_init_32 rfl (lv_at hl 1 rfl) ?_
  refine va_putF (D := D) (ci := 19) (v := .int 99) (ty := tyX15 0) (C := RX15) (T := TX15) (N := 9) hx hb hts iv_k_X15_init_c_X15 tyX15 tyX15_ok nmX15 hown hK hP hD hS 0 rfl rfl 0 (by decide) (hts (.fieldLink RX15 25 "AnswerFoldModel$Rule" "kind" "C") (by decide +kernel)) (fun _ h9 => h9) rfl hin rfl (by decide +kernel) rfl rfl (Nat.le_of_ble_eq_true rfl) dX15_init_33 (fun H locs hP hD hS => ?_)
  have hP : va_P D vwCl [(h0, .inr (19, [.int 99, .int 0, .int 0, .int 0, .int (-1), .int 0, .int 0, .ref q117, .ref q118])), (q117, .inr (4, [.int 0, .ref td, .int 0])), (q118, .inr (4, [.int 0, .ref td, .int 0]))] H := hP
  have hD : va_D A [(h0, .inr (19, [.int 99, .int 0, .int 0, .int 0, .int (-1), .int 0, .int 0, .ref q117, .ref q118])), (q117, .inr (4, [.int 0, .ref td, .int 0])), (q118, .inr (4, [.int 0, .ref td, .int 0]))] := hD
  refine lv_aload_n hx hb dX15_init_36 rfl (lv_at hl 0 rfl) ?_
  refine lv_iload_n hx hb dX15_init_37 rfl (lv_at hl 2 rfl) ?_
  refine va_putF (D := D) (ci := 19) (v := .int k1) (ty := tyX15 1) (C := RX15) (T := TX15) (N := 9) hx hb hts iv_k_X15_init_c_X15 tyX15 tyX15_ok nmX15 hown hK hP hD hS 0 rfl rfl 1 (by decide) (hts (.fieldLink RX15 29 "AnswerFoldModel$Rule" "part" "I") (by decide +kernel)) (fun _ h9 => h9) rfl hin rfl (by decide +kernel) rfl rfl (Nat.le_of_ble_eq_true rfl) dX15_init_38 (fun H locs hP hD hS => ?_)
  have hP : va_P D vwCl [(h0, .inr (19, [.int 99, .int k1, .int 0, .int 0, .int (-1), .int 0, .int 0, .ref q117, .ref q118])), (q117, .inr (4, [.int 0, .ref td, .int 0])), (q118, .inr (4, [.int 0, .ref td, .int 0]))] H := hP
  have hD : va_D A [(h0, .inr (19, [.int 99, .int k1, .int 0, .int 0, .int (-1), .int 0, .int 0, .ref q117, .ref q118])), (q117, .inr (4, [.int 0, .ref td, .int 0])), (q118, .inr (4, [.int 0, .ref td, .int 0]))] := hD
  have hP9 := hP.sub (ws' := [(h0, .inr (19, [.int 99, .int k1, .int 0, .int 0, .int (-1), .int 0, .int 0, .ref q117, .ref q118])), (q117, .inr (4, [.int 0, .ref td, .int 0])), (q118, .inr (4, [.int 0, .ref td, .int 0]))]) [0, 1, 2] rfl
  have hD9 := hD.sub (ws' := [(h0, .inr (19, [.int 99, .int k1, .int 0, .int 0, .int (-1), .int 0, .int 0, .ref q117, .ref q118])), (q117, .inr (4, [.int 0, .ref td, .int 0])), (q118, .inr (4, [.int 0, .ref td, .int 0]))]) [0, 1, 2] (by decide) rfl
  refine W.widen (k := 2) (n := 6) (Nat.le_of_ble_eq_true rfl) (Nat.le_of_ble_eq_true rfl) ?_
  exact W.vret hx hb hr (fun t ht hW => ⟨⟨[(h0, .inr (19, [.int 99, .int k1, .int 0, .int 0, .int (-1), .int 0, .int 0, .ref q117, .ref q118])), (q117, .inr (4, [.int 0, .ref td, .int 0])), (q118, .inr (4, [.int 0, .ref td, .int 0]))], rfl, ⟨q117, q118, rfl⟩, wq_B.of ht hP9 hD9⟩, hS.F ht⟩) hS.2.2 dX15_init_41
def vs_k_X15_init_w : List Cond := .code yX15_init cX15_init 3 none :: ([.methodLink RX15 3 objectInit, .instanceMethod objectInit, .code objectInit ⟨#[0xb1]⟩ 1 none, .fieldLink RX15 9 "AnswerFoldModel$Rule" "span" "I", .classLink RX15 15 RJx4a65c, .instantiable RJx4a65c 3, .initialized RJx4a65c, .methodLink RX15 17 yJx4a65c_init_da8c8, .instanceMethod yJx4a65c_init_da8c8, .fieldLink RX15 18 "AnswerFoldModel$Rule" "heads" "Ljava/util/ArrayList;", .fieldLink RX15 22 "AnswerFoldModel$Rule" "body" "Ljava/util/ArrayList;", .fieldLink RX15 25 "AnswerFoldModel$Rule" "kind" "C", .fieldLink RX15 29 "AnswerFoldModel$Rule" "part" "I"] ++ (u_ws RX15 TX15 9 ++ (u_ws RJx4a65c TJx4a65c 3 ++ (vs_k_Jx4a65c_init_da8c8))))
theorem iv_k_X15_init_w_Jx4a65c : ∀ w ∈ u_ws RJx4a65c TJx4a65c 3, w ∈ vs_k_X15_init_w := (fun _ h => List.mem_cons_of_mem _ (List.mem_append_right _ (List.mem_append_right _ (List.mem_append_left _ h))))
theorem iv_k_X15_init_w_X15 : ∀ w ∈ u_ws RX15 TX15 9, w ∈ vs_k_X15_init_w := (fun _ h => List.mem_cons_of_mem _ (List.mem_append_right _ (List.mem_append_left _ h)))
set_option maxRecDepth 20000 in
theorem gv_k_X15_init_w_0 : GoodIn vs_k_X15_init_w (vs_k_Jx4a65c_init_da8c8) := (goodIn_sub (fun _ h => List.mem_cons_of_mem _ (List.mem_append_right _ (List.mem_append_right _ (List.mem_append_right _ (h))))) (by decide +kernel))
set_option maxRecDepth 20000 in
theorem gv_k_X15_init_w_1 : GoodIn vs_k_X15_init_w (vs_k_Jx4a65c_init_da8c8) := (goodIn_sub (fun _ h => List.mem_cons_of_mem _ (List.mem_append_right _ (List.mem_append_right _ (List.mem_append_right _ (h))))) (by decide +kernel))
set_option maxHeartbeats 4000000 in
set_option maxRecDepth 100000 in
theorem k_X15_init_w (l : Launch) (D : va_G) (ty : Nat → ClassId) (td mi sz : Nat) (h0 : Nat) (k1 : Int32) : Met l yX15_init vs_k_X15_init_w { frames := 4, cells := 2, slots := 6, locals := 72 } (va_Pc [.ref h0, .int 119, .int k1] (wq_P D ty td mi [(h0, .inr (19, [.int 0, .int 0, .int 0, .int 0, .int 0, .int 0, .int 0, .null, .null]))] sz)) (va_Qv (fun u : va_W => (∃ (q119 : Nat) (q120 : Nat), (u = [(h0, .inr (19, [.int 119, .int k1, .int 0, .int 0, .int (-1), .int 0, .int 0, .ref q119, .ref q120])), (q119, .inr (4, [.int 0, .ref td, .int 0])), (q120, .inr (4, [.int 0, .ref td, .int 0]))]))) (wq_B D (va_A [(h0, .inr (19, [.int 0, .int 0, .int 0, .int 0, .int 0, .int 0, .int 0, .null, .null]))] sz)) (va_A [(h0, .inr (19, [.int 0, .int 0, .int 0, .int 0, .int 0, .int 0, .int 0, .null, .null]))] sz)) 2 6 (va_A [(h0, .inr (19, [.int 0, .int 0, .int 0, .int 0, .int 0, .int 0, .int 0, .null, .null]))] sz) := by
  refine Met.ofW (cc := cX15_init) (maxL := 3) (ret := none) (by decide) rfl ?_
  intro p e s m args below meth c s₁ B hml hv
  obtain ⟨rfl, hsz, hP, hK, hD0, hE⟩ := hv
  have hx := B.exec
  have hb := B.bytes
  have hr := B.returns
  have hts := atoms_spec (ws := vs_k_X15_init_w) B.pre
  have hown : s.vm.findClass RX15 = some m.cls := findClass_of_methodNamed B.named
  have hlocks := B.notSynchronized
  have hin : meth.name = "<init>" := (name_of_methodNamed B.named B.method).1
  subst hsz
  have hD := hD0.self (sz := s.heap.size)
  generalize hAe : va_A [(h0, .inr (19, [.int 0, .int 0, .int 0, .int 0, .int 0, .int 0, .int 0, .null, .null]))] s.heap.size = A at hD hE ⊢
  have hA : ∀ q : Nat, s.heap.size ≤ q → A q := fun q h => by rw [← hAe]; exact Or.inr h
  have hS : va_S A s.heap s.heap [] := va_S.rf
  have hP : va_P D vwCl [(h0, .inr (19, [.int 0, .int 0, .int 0, .int 0, .int 0, .int 0, .int 0, .null, .null]))] s.heap := hP
  have hl := lv_entry ([.ref h0, .int 119, .int k1]) (n := 3) (Nat.le_of_ble_eq_true rfl)
  rw [lg_entry_eq]
  generalize (lg_sl ([.ref h0, .int 119, .int k1]) ++ List.replicate (3 - (lg_sl ([.ref h0, .int 119, .int k1])).length) Slot.unset).toArray = ls at hl ⊢
  have hl : lv_has ls 3 [(0, .ref h0), (1, .int 119), (2, .int k1)] := hl
  refine lv_aload_n hx hb dX15_init_0 rfl (lv_at hl 0 rfl) ?_
  refine W.objInit hx hb hown (hts (.methodLink RX15 3 objectInit) (by decide +kernel)) (hts (.instanceMethod objectInit) (by decide +kernel)) (hts (.code objectInit ⟨#[0xb1]⟩ 1 none) (by decide +kernel)) rfl (by rw [hml]; exact hl.1) rfl dX15_init_1 (Nat.le_of_ble_eq_true rfl) (Nat.le_of_ble_eq_true rfl) ?_
  refine W.eq (g2 := F0 m 4 ls []) rfl ?_
  refine lv_aload_n hx hb dX15_init_4 rfl (lv_at hl 0 rfl) ?_
  refine lv_iconst (v := (-1)) hx hb dX15_init_5 (by decide) ?_
  refine va_put (D := D) (ci := 19) (v := .int (-1)) (ty := tyX15 4) (C := RX15) (T := TX15) (N := 9) hx hb hts iv_k_X15_init_w_X15 tyX15 tyX15_ok nmX15 hown hK hP hD hS 0 rfl rfl 4 (by decide) (hts (.fieldLink RX15 9 "AnswerFoldModel$Rule" "span" "I") (by decide +kernel)) (fun _ h9 => h9) rfl (by decide +kernel) rfl rfl (Nat.le_of_ble_eq_true rfl) dX15_init_6 (fun H locs hP hD hS => ?_)
  have hP : va_P D vwCl [(h0, .inr (19, [.int 0, .int 0, .int 0, .int 0, .int (-1), .int 0, .int 0, .null, .null]))] H := hP
  have hD : va_D A [(h0, .inr (19, [.int 0, .int 0, .int 0, .int 0, .int (-1), .int 0, .int 0, .null, .null]))] := hD
  refine lv_aload_n hx hb dX15_init_9 rfl (lv_at hl 0 rfl) ?_
  refine va_new (ci := 4) (fs := [.int 0, .null, .int 0]) (C := RJx4a65c) (T := TJx4a65c) (N := 3) hx hb hts iv_k_X15_init_w_Jx4a65c tyJx4a65c tyJx4a65c_ok hown (hts (.classLink RX15 15 RJx4a65c) (by decide +kernel)) (hts (.instantiable RJx4a65c 3) (by decide +kernel)) (hts (.initialized RJx4a65c) (by decide +kernel)) hK hP hD hS hA rfl (fun j hj => by rcases (show j = 0 ∨ j = 1 ∨ j = 2 by omega) with rfl | rfl | rfl <;> rfl) (Nat.le_of_ble_eq_true rfl) (Nat.le_of_ble_eq_true rfl) dX15_init_10 (fun q119 H hP hD hS => ?_)
  have hP : va_P D vwCl [(h0, .inr (19, [.int 0, .int 0, .int 0, .int 0, .int (-1), .int 0, .int 0, .null, .null])), (q119, .inr (4, [.int 0, .null, .int 0]))] H := hP
  have hD : va_D A [(h0, .inr (19, [.int 0, .int 0, .int 0, .int 0, .int (-1), .int 0, .int 0, .null, .null])), (q119, .inr (4, [.int 0, .null, .int 0]))] := hD
  refine W.widen (k := 1) (n := 3) (Nat.le_of_ble_eq_true rfl) (Nat.le_of_ble_eq_true rfl) ?_
  refine lv_dup hx hb dX15_init_13 rfl ?_
  refine wq_v (wc := [(q119, .inr (4, [.int 0, .null, .int 0]))]) (wr := [(h0, .inr (19, [.int 0, .int 0, .int 0, .int 0, .int (-1), .int 0, .int 0, .null, .null]))]) (va_runI (As := []) (rest := [.ref q119, .ref h0]) ⟨hx, hb, hml, hown, hts⟩ (k_Jx4a65c_init_da8c8 l D ty td mi H.size q119) (cwI 0 hts gv_k_X15_init_w_0 rfl rfl rfl (hts (.initialized RJx4a65c) (by decide +kernel)) (hts (.methodLink RX15 17 yJx4a65c_init_da8c8) (by decide +kernel)) (hts (.instanceMethod yJx4a65c_init_da8c8) (by decide +kernel)) rfl (by decide +kernel) ⟨(Nat.le_of_ble_eq_true rfl), (Nat.le_of_ble_eq_true rfl)⟩) (wq_preS hP hD hK hE hS hA [1] rfl (by decide)) rfl rfl hl.1 rfl (lv_room (Nat.le_of_ble_eq_true rfl)) dX15_init_14 ⟨(Nat.le_of_ble_eq_true rfl), (Nat.le_of_ble_eq_true rfl)⟩) hS hA hP hD [1] [0] rfl rfl (by decide) (by decide) (fun u H locs hw hP hD hS => ?_)
  obtain rfl := hw
  have hP : va_P D vwCl [(h0, .inr (19, [.int 0, .int 0, .int 0, .int 0, .int (-1), .int 0, .int 0, .null, .null])), (q119, .inr (4, [.int 0, .ref td, .int 0]))] H := hP
  have hD : va_D A [(h0, .inr (19, [.int 0, .int 0, .int 0, .int 0, .int (-1), .int 0, .int 0, .null, .null])), (q119, .inr (4, [.int 0, .ref td, .int 0]))] := hD
  refine W.widen (k := 1) (n := 3) (Nat.le_of_ble_eq_true rfl) (Nat.le_of_ble_eq_true rfl) ?_
  refine va_putF (D := D) (ci := 19) (v := .ref q119) (ty := tyX15 7) (C := RX15) (T := TX15) (N := 9) hx hb hts iv_k_X15_init_w_X15 tyX15 tyX15_ok nmX15 hown hK hP hD hS 0 rfl rfl 7 (by decide) (hts (.fieldLink RX15 18 "AnswerFoldModel$Rule" "heads" "Ljava/util/ArrayList;") (by decide +kernel)) (fun _ h9 => h9) rfl hin rfl (by decide +kernel) rfl rfl (Nat.le_of_ble_eq_true rfl) dX15_init_17 (fun H locs hP hD hS => ?_)
  have hP : va_P D vwCl [(h0, .inr (19, [.int 0, .int 0, .int 0, .int 0, .int (-1), .int 0, .int 0, .ref q119, .null])), (q119, .inr (4, [.int 0, .ref td, .int 0]))] H := hP
  have hD : va_D A [(h0, .inr (19, [.int 0, .int 0, .int 0, .int 0, .int (-1), .int 0, .int 0, .ref q119, .null])), (q119, .inr (4, [.int 0, .ref td, .int 0]))] := hD
  refine lv_aload_n hx hb dX15_init_20 rfl (lv_at hl 0 rfl) ?_
  refine va_new (ci := 4) (fs := [.int 0, .null, .int 0]) (C := RJx4a65c) (T := TJx4a65c) (N := 3) hx hb hts iv_k_X15_init_w_Jx4a65c tyJx4a65c tyJx4a65c_ok hown (hts (.classLink RX15 15 RJx4a65c) (by decide +kernel)) (hts (.instantiable RJx4a65c 3) (by decide +kernel)) (hts (.initialized RJx4a65c) (by decide +kernel)) hK hP hD hS hA rfl (fun j hj => by rcases (show j = 0 ∨ j = 1 ∨ j = 2 by omega) with rfl | rfl | rfl <;> rfl) (Nat.le_of_ble_eq_true rfl) (Nat.le_of_ble_eq_true rfl) dX15_init_21 (fun q120 H hP hD hS => ?_)
  have hP : va_P D vwCl [(h0, .inr (19, [.int 0, .int 0, .int 0, .int 0, .int (-1), .int 0, .int 0, .ref q119, .null])), (q119, .inr (4, [.int 0, .ref td, .int 0])), (q120, .inr (4, [.int 0, .null, .int 0]))] H := hP
  have hD : va_D A [(h0, .inr (19, [.int 0, .int 0, .int 0, .int 0, .int (-1), .int 0, .int 0, .ref q119, .null])), (q119, .inr (4, [.int 0, .ref td, .int 0])), (q120, .inr (4, [.int 0, .null, .int 0]))] := hD
  refine W.widen (k := 2) (n := 6) (Nat.le_of_ble_eq_true rfl) (Nat.le_of_ble_eq_true rfl) ?_
  refine lv_dup hx hb dX15_init_24 rfl ?_
  refine wq_v (wc := [(q120, .inr (4, [.int 0, .null, .int 0]))]) (wr := [(h0, .inr (19, [.int 0, .int 0, .int 0, .int 0, .int (-1), .int 0, .int 0, .ref q119, .null])), (q119, .inr (4, [.int 0, .ref td, .int 0]))]) (va_runI (As := []) (rest := [.ref q120, .ref h0]) ⟨hx, hb, hml, hown, hts⟩ (k_Jx4a65c_init_da8c8 l D ty td mi H.size q120) (cwI 0 hts gv_k_X15_init_w_1 rfl rfl rfl (hts (.initialized RJx4a65c) (by decide +kernel)) (hts (.methodLink RX15 17 yJx4a65c_init_da8c8) (by decide +kernel)) (hts (.instanceMethod yJx4a65c_init_da8c8) (by decide +kernel)) rfl (by decide +kernel) ⟨(Nat.le_of_ble_eq_true rfl), (Nat.le_of_ble_eq_true rfl)⟩) (wq_preS hP hD hK hE hS hA [2] rfl (by decide)) rfl rfl hl.1 rfl (lv_room (Nat.le_of_ble_eq_true rfl)) dX15_init_25 ⟨(Nat.le_of_ble_eq_true rfl), (Nat.le_of_ble_eq_true rfl)⟩) hS hA hP hD [2] [0, 1] rfl rfl (by decide) (by decide) (fun u H locs hw hP hD hS => ?_)
  obtain rfl := hw
  have hP : va_P D vwCl [(h0, .inr (19, [.int 0, .int 0, .int 0, .int 0, .int (-1), .int 0, .int 0, .ref q119, .null])), (q119, .inr (4, [.int 0, .ref td, .int 0])), (q120, .inr (4, [.int 0, .ref td, .int 0]))] H := hP
  have hD : va_D A [(h0, .inr (19, [.int 0, .int 0, .int 0, .int 0, .int (-1), .int 0, .int 0, .ref q119, .null])), (q119, .inr (4, [.int 0, .ref td, .int 0])), (q120, .inr (4, [.int 0, .ref td, .int 0]))] := hD
  refine W.widen (k := 2) (n := 6) (Nat.le_of_ble_eq_true rfl) (Nat.le_of_ble_eq_true rfl) ?_
  refine va_putF (D := D) (ci := 19) (v := .ref q120) (ty := tyX15 8) (C := RX15) (T := TX15) (N := 9) hx hb hts iv_k_X15_init_w_X15 tyX15 tyX15_ok nmX15 hown hK hP hD hS 0 rfl rfl 8 (by decide) (hts (.fieldLink RX15 22 "AnswerFoldModel$Rule" "body" "Ljava/util/ArrayList;") (by decide +kernel)) (fun _ h9 => h9) rfl hin rfl (by decide +kernel) rfl rfl (Nat.le_of_ble_eq_true rfl) dX15_init_28 (fun H locs hP hD hS => ?_)
  have hP : va_P D vwCl [(h0, .inr (19, [.int 0, .int 0, .int 0, .int 0, .int (-1), .int 0, .int 0, .ref q119, .ref q120])), (q119, .inr (4, [.int 0, .ref td, .int 0])), (q120, .inr (4, [.int 0, .ref td, .int 0]))] H := hP
  have hD : va_D A [(h0, .inr (19, [.int 0, .int 0, .int 0, .int 0, .int (-1), .int 0, .int 0, .ref q119, .ref q120])), (q119, .inr (4, [.int 0, .ref td, .int 0])), (q120, .inr (4, [.int 0, .ref td, .int 0]))] := hD
  refine lv_aload_n hx hb dX15_init_31 rfl (lv_at hl 0 rfl) ?_
  refine lv_iload_n hx hb dX15_init_32 rfl (lv_at hl 1 rfl) ?_
  refine va_putF (D := D) (ci := 19) (v := .int 119) (ty := tyX15 0) (C := RX15) (T := TX15) (N := 9) hx hb hts iv_k_X15_init_w_X15 tyX15 tyX15_ok nmX15 hown hK hP hD hS 0 rfl rfl 0 (by decide) (hts (.fieldLink RX15 25 "AnswerFoldModel$Rule" "kind" "C") (by decide +kernel)) (fun _ h9 => h9) rfl hin rfl (by decide +kernel) rfl rfl (Nat.le_of_ble_eq_true rfl) dX15_init_33 (fun H locs hP hD hS => ?_)
  have hP : va_P D vwCl [(h0, .inr (19, [.int 119, .int 0, .int 0, .int 0, .int (-1), .int 0, .int 0, .ref q119, .ref q120])), (q119, .inr (4, [.int 0, .ref td, .int 0])), (q120, .inr (4, [.int 0, .ref td, .int 0]))] H := hP
  have hD : va_D A [(h0, .inr (19, [.int 119, .int 0, .int 0, .int 0, .int (-1), .int 0, .int 0, .ref q119, .ref q120])), (q119, .inr (4, [.int 0, .ref td, .int 0])), (q120, .inr (4, [.int 0, .ref td, .int 0]))] := hD
  refine lv_aload_n hx hb dX15_init_36 rfl (lv_at hl 0 rfl) ?_
  refine lv_iload_n hx hb dX15_init_37 rfl (lv_at hl 2 rfl) ?_
  refine va_putF (D := D) (ci := 19) (v := .int k1) (ty := tyX15 1) (C := RX15) (T := TX15) (N := 9) hx hb hts iv_k_X15_init_w_X15 tyX15 tyX15_ok nmX15 hown hK hP hD hS 0 rfl rfl 1 (by decide) (hts (.fieldLink RX15 29 "AnswerFoldModel$Rule" "part" "I") (by decide +kernel)) (fun _ h9 => h9) rfl hin rfl (by decide +kernel) rfl rfl (Nat.le_of_ble_eq_true rfl) dX15_init_38 (fun H locs hP hD hS => ?_)
  have hP : va_P D vwCl [(h0, .inr (19, [.int 119, .int k1, .int 0, .int 0, .int (-1), .int 0, .int 0, .ref q119, .ref q120])), (q119, .inr (4, [.int 0, .ref td, .int 0])), (q120, .inr (4, [.int 0, .ref td, .int 0]))] H := hP
  have hD : va_D A [(h0, .inr (19, [.int 119, .int k1, .int 0, .int 0, .int (-1), .int 0, .int 0, .ref q119, .ref q120])), (q119, .inr (4, [.int 0, .ref td, .int 0])), (q120, .inr (4, [.int 0, .ref td, .int 0]))] := hD
  have hP9 := hP.sub (ws' := [(h0, .inr (19, [.int 119, .int k1, .int 0, .int 0, .int (-1), .int 0, .int 0, .ref q119, .ref q120])), (q119, .inr (4, [.int 0, .ref td, .int 0])), (q120, .inr (4, [.int 0, .ref td, .int 0]))]) [0, 1, 2] rfl
  have hD9 := hD.sub (ws' := [(h0, .inr (19, [.int 119, .int k1, .int 0, .int 0, .int (-1), .int 0, .int 0, .ref q119, .ref q120])), (q119, .inr (4, [.int 0, .ref td, .int 0])), (q120, .inr (4, [.int 0, .ref td, .int 0]))]) [0, 1, 2] (by decide) rfl
  refine W.widen (k := 2) (n := 6) (Nat.le_of_ble_eq_true rfl) (Nat.le_of_ble_eq_true rfl) ?_
  exact W.vret hx hb hr (fun t ht hW => ⟨⟨[(h0, .inr (19, [.int 119, .int k1, .int 0, .int 0, .int (-1), .int 0, .int 0, .ref q119, .ref q120])), (q119, .inr (4, [.int 0, .ref td, .int 0])), (q120, .inr (4, [.int 0, .ref td, .int 0]))], rfl, ⟨q119, q120, rfl⟩, wq_B.of ht hP9 hD9⟩, hS.F ht⟩) hS.2.2 dX15_init_41
def vs_k_X16_add : List Cond := .code yX16_add cX16_add 2 (some .int) :: ([.fieldLink RX16 16 "AnswerFoldModel" "rules" "Ljava/util/ArrayList;", .methodLink RX16 94 yJx4a65c_add_9ea2d, .instanceMethod yJx4a65c_add_9ea2d, .selects RJx4a65c yJx4a65c_add_9ea2d yJx4a65c_add_9ea2d, .initialized RJx4a65c, .methodLink RX16 91 yX16_change, .instanceMethod yX16_change, .selects RX16 yX16_change yX16_change, .initialized RX16, .methodLink RX16 76 yJx4a65c_size_8abf5, .instanceMethod yJx4a65c_size_8abf5, .selects RJx4a65c yJx4a65c_size_8abf5 yJx4a65c_size_8abf5] ++ (u_ws RX16 TX16 26 ++ (vs_k_add1_rule ++ (vs_k_X16_change ++ (vs_k_size)))))
theorem iv_k_X16_add_X16 : ∀ w ∈ u_ws RX16 TX16 26, w ∈ vs_k_X16_add := (fun _ h => List.mem_cons_of_mem _ (List.mem_append_right _ (List.mem_append_left _ h)))
set_option maxRecDepth 20000 in
theorem gv_k_X16_add_0 : GoodIn vs_k_X16_add (wsV RX16 94 RJx4a65c yJx4a65c_add_9ea2d vs_k_add1_rule) := goodIn_app (goodIn_sub (by decide +kernel) (by decide +kernel)) (goodIn_sub (fun _ h => List.mem_cons_of_mem _ (List.mem_append_right _ (List.mem_append_right _ (List.mem_append_left _ h)))) (by decide +kernel))
set_option maxRecDepth 20000 in
theorem gv_k_X16_add_1 : GoodIn vs_k_X16_add (wsV RX16 91 RX16 yX16_change vs_k_X16_change) := goodIn_app (goodIn_sub (by decide +kernel) (by decide +kernel)) (goodIn_sub (fun _ h => List.mem_cons_of_mem _ (List.mem_append_right _ (List.mem_append_right _ (List.mem_append_right _ (List.mem_append_left _ h))))) (by decide +kernel))
set_option maxRecDepth 20000 in
theorem gv_k_X16_add_2 : GoodIn vs_k_X16_add (wsV RX16 76 RJx4a65c yJx4a65c_size_8abf5 vs_k_size) := goodIn_app (goodIn_sub (by decide +kernel) (by decide +kernel)) (goodIn_sub (fun _ h => List.mem_cons_of_mem _ (List.mem_append_right _ (List.mem_append_right _ (List.mem_append_right _ (List.mem_append_right _ (h)))))) (by decide +kernel))
set_option maxHeartbeats 4000000 in
set_option maxRecDepth 100000 in
theorem k_X16_add (l : Launch) (D : va_G) (ty : Nat → ClassId) (td mi sz : Nat) (m0 : Nat) (m1 : Nat) (m2 : Nat) (m3 : Nat) (m4 : Nat) (m5 : Nat) (m6 : Nat) (m7 : Nat) (m8 : Nat) (m9 : Nat) (m10 : Nat) (m11 : Nat) (m12 : Nat) (m13 : Nat) (m14 : Nat) (m15 : Nat) (m16 : Nat) (h1 : Nat) (f7 : Nat) (f8 : Nat) (h1 : Nat) (f0 : Int32) (f1 : Int32) (f2 : Int32) (f3 : Int32) (f4 : Int32) (f5 : Int32) (f6 : Int32) (f7 : Nat) (f8 : Nat) : Met l yX16_add vs_k_X16_add { frames := 5, cells := 1, slots := 10, locals := 101 } (va_Pc [.ref m0, .ref h1] (wq_P D ty td mi [(m0, .inr (20, [.int 0, .int 0, .ref m1, .ref m2, .ref m3, .int 0, .ref m4, .ref m5, .ref m6, .int 0, .ref m7, .ref m8, .ref m9, .int 0, .ref m10, .int 0, .ref m11, .ref m12, .ref m13, .int 0, .ref m14, .int 0, .int 0, .int 0, .ref m15, .ref m16])), (m2, .inr (4, [.int 0, .ref td, .int 0])), (h1, .inr (19, [.int f0, .int f1, .int f2, .int f3, .int f4, .int f5, .int f6, .ref f7, .ref f8]))] sz)) (va_Qi (fun (r : Int32) (u : va_W) => (r = 0 ∧ (u = [(m0, .inr (20, [.int 0, .int 0, .ref m1, .ref m2, .ref m3, .int 0, .ref m4, .ref m5, .ref m6, .int 0, .ref m7, .ref m8, .ref m9, .int 0, .ref m10, .int 0, .ref m11, .ref m12, .ref m13, .int 0, .ref m14, .int 0, .int 0, .int 0, .ref m15, .ref m16]))]))) (wq_B D (va_A [(m0, .inr (20, [.int 0, .int 0, .ref m1, .ref m2, .ref m3, .int 0, .ref m4, .ref m5, .ref m6, .int 0, .ref m7, .ref m8, .ref m9, .int 0, .ref m10, .int 0, .ref m11, .ref m12, .ref m13, .int 0, .ref m14, .int 0, .int 0, .int 0, .ref m15, .ref m16])), (m2, .inr (4, [.int 0, .ref td, .int 0])), (h1, .inr (19, [.int f0, .int f1, .int f2, .int f3, .int f4, .int f5, .int f6, .ref f7, .ref f8]))] sz)) (va_A [(m0, .inr (20, [.int 0, .int 0, .ref m1, .ref m2, .ref m3, .int 0, .ref m4, .ref m5, .ref m6, .int 0, .ref m7, .ref m8, .ref m9, .int 0, .ref m10, .int 0, .ref m11, .ref m12, .ref m13, .int 0, .ref m14, .int 0, .int 0, .int 0, .ref m15, .ref m16])), (m2, .inr (4, [.int 0, .ref td, .int 0])), (h1, .inr (19, [.int f0, .int f1, .int f2, .int f3, .int f4, .int f5, .int f6, .ref f7, .ref f8]))] sz)) 1 10 (va_A [(m0, .inr (20, [.int 0, .int 0, .ref m1, .ref m2, .ref m3, .int 0, .ref m4, .ref m5, .ref m6, .int 0, .ref m7, .ref m8, .ref m9, .int 0, .ref m10, .int 0, .ref m11, .ref m12, .ref m13, .int 0, .ref m14, .int 0, .int 0, .int 0, .ref m15, .ref m16])), (m2, .inr (4, [.int 0, .ref td, .int 0])), (h1, .inr (19, [.int f0, .int f1, .int f2, .int f3, .int f4, .int f5, .int f6, .ref f7, .ref f8]))] sz) := by
  refine Met.ofW (cc := cX16_add) (maxL := 2) (ret := (some .int)) (by decide) rfl ?_
  intro p e s m args below meth c s₁ B hml hv
  obtain ⟨rfl, hsz, hP, hK, hD0, hE⟩ := hv
  have hx := B.exec
  have hb := B.bytes
  have hr := B.returns
  have hts := atoms_spec (ws := vs_k_X16_add) B.pre
  have hown : s.vm.findClass RX16 = some m.cls := findClass_of_methodNamed B.named
  have hlocks := B.notSynchronized
  subst hsz
  have hD := hD0.self (sz := s.heap.size)
  generalize hAe : va_A [(m0, .inr (20, [.int 0, .int 0, .ref m1, .ref m2, .ref m3, .int 0, .ref m4, .ref m5, .ref m6, .int 0, .ref m7, .ref m8, .ref m9, .int 0, .ref m10, .int 0, .ref m11, .ref m12, .ref m13, .int 0, .ref m14, .int 0, .int 0, .int 0, .ref m15, .ref m16])), (m2, .inr (4, [.int 0, .ref td, .int 0])), (h1, .inr (19, [.int f0, .int f1, .int f2, .int f3, .int f4, .int f5, .int f6, .ref f7, .ref f8]))] s.heap.size = A at hD hE ⊢
  have hA : ∀ q : Nat, s.heap.size ≤ q → A q := fun q h => by rw [← hAe]; exact Or.inr h
  have hS : va_S A s.heap s.heap [] := va_S.rf
  have hP : va_P D vwCl [(m0, .inr (20, [.int 0, .int 0, .ref m1, .ref m2, .ref m3, .int 0, .ref m4, .ref m5, .ref m6, .int 0, .ref m7, .ref m8, .ref m9, .int 0, .ref m10, .int 0, .ref m11, .ref m12, .ref m13, .int 0, .ref m14, .int 0, .int 0, .int 0, .ref m15, .ref m16])), (m2, .inr (4, [.int 0, .ref td, .int 0])), (h1, .inr (19, [.int f0, .int f1, .int f2, .int f3, .int f4, .int f5, .int f6, .ref f7, .ref f8]))] s.heap := hP
  have hl := lv_entry ([.ref m0, .ref h1]) (n := 2) (Nat.le_of_ble_eq_true rfl)
  rw [lg_entry_eq]
  generalize (lg_sl ([.ref m0, .ref h1]) ++ List.replicate (2 - (lg_sl ([.ref m0, .ref h1])).length) Slot.unset).toArray = ls at hl ⊢
  have hl : lv_has ls 2 [(0, .ref m0), (1, .ref h1)] := hl
  refine lv_aload_n hx hb dX16_add_0 rfl (lv_at hl 0 rfl) ?_
  refine va_get (D := D) (ci := 20) (v := .ref m2) (C := RX16) (T := TX16) (N := 26) hx hb hts iv_k_X16_add_X16 hown hK hP 0 rfl rfl 3 (by decide) (hts (.fieldLink RX16 16 "AnswerFoldModel" "rules" "Ljava/util/ArrayList;") (by decide +kernel)) (fun _ h9 => h9) rfl dX16_add_1 ?_
  refine lv_aload_n hx hb dX16_add_4 rfl (lv_at hl 1 rfl) ?_
  refine wq_i (wc := [(m2, .inr (4, [.int 0, .ref td, .int 0])), (h1, .inr (19, [.int f0, .int f1, .int f2, .int f3, .int f4, .int f5, .int f6, .ref f7, .ref f8]))]) (wr := [(m0, .inr (20, [.int 0, .int 0, .ref m1, .ref m2, .ref m3, .int 0, .ref m4, .ref m5, .ref m6, .int 0, .ref m7, .ref m8, .ref m9, .int 0, .ref m10, .int 0, .ref m11, .ref m12, .ref m13, .int 0, .ref m14, .int 0, .int 0, .int 0, .ref m15, .ref m16]))]) (va_runV (As := [.ref h1]) (rest := []) ⟨hx, hb, hml, hown, hts⟩ (k_add1_rule l D ty td mi s.heap.size m2 0 h1 f0 f1 f2 f3 f4 f5 f6 f7 f8) (cwV 1 hts gv_k_X16_add_0 rfl rfl rfl (by decide +kernel) ⟨(Nat.le_of_ble_eq_true rfl), (Nat.le_of_ble_eq_true rfl)⟩) (wq_preV hP hD hK hE hS hA [1, 2] rfl (by decide) 1 4 rfl rfl) rfl rfl hl.1 rfl (lv_room (Nat.le_of_ble_eq_true rfl)) dX16_add_5 ⟨(Nat.le_of_ble_eq_true rfl), (Nat.le_of_ble_eq_true rfl)⟩) hS hA hP hD [1, 2] [0] rfl rfl (by decide) (by decide) (fun r u H locs hw hP hD hS => ?_)
  obtain ⟨q121, rfl, rfl⟩ := hw
  have hP : va_P D vwCl [(m0, .inr (20, [.int 0, .int 0, .ref m1, .ref m2, .ref m3, .int 0, .ref m4, .ref m5, .ref m6, .int 0, .ref m7, .ref m8, .ref m9, .int 0, .ref m10, .int 0, .ref m11, .ref m12, .ref m13, .int 0, .ref m14, .int 0, .int 0, .int 0, .ref m15, .ref m16])), (h1, .inr (19, [.int f0, .int f1, .int f2, .int f3, .int f4, .int f5, .int f6, .ref f7, .ref f8])), (m2, .inr (4, [.int (0 + 1), .ref q121, .int 1])), (q121, .inl (ty 6, 10, .inr (.inr (.inr (.inr (va_up (fun _ => none) (0 : Int32).toNatClampNeg (some h1)))))))] H := hP
  have hD : va_D A [(m0, .inr (20, [.int 0, .int 0, .ref m1, .ref m2, .ref m3, .int 0, .ref m4, .ref m5, .ref m6, .int 0, .ref m7, .ref m8, .ref m9, .int 0, .ref m10, .int 0, .ref m11, .ref m12, .ref m13, .int 0, .ref m14, .int 0, .int 0, .int 0, .ref m15, .ref m16])), (h1, .inr (19, [.int f0, .int f1, .int f2, .int f3, .int f4, .int f5, .int f6, .ref f7, .ref f8])), (m2, .inr (4, [.int (0 + 1), .ref q121, .int 1])), (q121, .inl (ty 6, 10, .inr (.inr (.inr (.inr (va_up (fun _ => none) (0 : Int32).toNatClampNeg (some h1)))))))] := hD
  refine W.widen (k := 1) (n := 10) (Nat.le_of_ble_eq_true rfl) (Nat.le_of_ble_eq_true rfl) ?_
  refine lv_pop hx hb dX16_add_8 rfl ?_
  refine lv_aload_n hx hb dX16_add_9 rfl (lv_at hl 0 rfl) ?_
  refine wq_v (wc := [(m0, .inr (20, [.int 0, .int 0, .ref m1, .ref m2, .ref m3, .int 0, .ref m4, .ref m5, .ref m6, .int 0, .ref m7, .ref m8, .ref m9, .int 0, .ref m10, .int 0, .ref m11, .ref m12, .ref m13, .int 0, .ref m14, .int 0, .int 0, .int 0, .ref m15, .ref m16]))]) (wr := [(h1, .inr (19, [.int f0, .int f1, .int f2, .int f3, .int f4, .int f5, .int f6, .ref f7, .ref f8])), (m2, .inr (4, [.int (0 + 1), .ref q121, .int 1])), (q121, .inl (ty 6, 10, .inr (.inr (.inr (.inr (va_up (fun _ => none) (0 : Int32).toNatClampNeg (some h1)))))))]) (va_runV (As := []) (rest := []) ⟨hx, hb, hml, hown, hts⟩ (k_X16_change l D ty td mi H.size m0 m1 m2 m3 m4 m5 m6 m7 m8 m9 m10 m11 m12 m13 m14 m15 m16 0 0) (cwV 0 hts gv_k_X16_add_1 rfl rfl rfl (by decide +kernel) ⟨(Nat.le_of_ble_eq_true rfl), (Nat.le_of_ble_eq_true rfl)⟩) (wq_preV hP hD hK hE hS hA [0] rfl (by decide) 0 20 rfl rfl) rfl rfl hl.1 rfl (lv_room (Nat.le_of_ble_eq_true rfl)) dX16_add_10 ⟨(Nat.le_of_ble_eq_true rfl), (Nat.le_of_ble_eq_true rfl)⟩) hS hA hP hD [0] [1, 2, 3] rfl rfl (by decide) (by decide) (fun u H locs hw hP hD hS => ?_)
  obtain rfl := hw
  have hP : va_P D vwCl [(h1, .inr (19, [.int f0, .int f1, .int f2, .int f3, .int f4, .int f5, .int f6, .ref f7, .ref f8])), (m2, .inr (4, [.int (0 + 1), .ref q121, .int 1])), (q121, .inl (ty 6, 10, .inr (.inr (.inr (.inr (va_up (fun _ => none) (0 : Int32).toNatClampNeg (some h1))))))), (m0, .inr (20, [.int 0, .int 0, .ref m1, .ref m2, .ref m3, .int 0, .ref m4, .ref m5, .ref m6, .int 0, .ref m7, .ref m8, .ref m9, .int 0, .ref m10, .int 0, .ref m11, .ref m12, .ref m13, .int 0, .ref m14, .int 0, .int 0, .int 0, .ref m15, .ref m16]))] H := hP
  have hD : va_D A [(h1, .inr (19, [.int f0, .int f1, .int f2, .int f3, .int f4, .int f5, .int f6, .ref f7, .ref f8])), (m2, .inr (4, [.int (0 + 1), .ref q121, .int 1])), (q121, .inl (ty 6, 10, .inr (.inr (.inr (.inr (va_up (fun _ => none) (0 : Int32).toNatClampNeg (some h1))))))), (m0, .inr (20, [.int 0, .int 0, .ref m1, .ref m2, .ref m3, .int 0, .ref m4, .ref m5, .ref m6, .int 0, .ref m7, .ref m8, .ref m9, .int 0, .ref m10, .int 0, .ref m11, .ref m12, .ref m13, .int 0, .ref m14, .int 0, .int 0, .int 0, .ref m15, .ref m16]))] := hD
  refine W.widen (k := 1) (n := 10) (Nat.le_of_ble_eq_true rfl) (Nat.le_of_ble_eq_true rfl) ?_
  refine lv_aload_n hx hb dX16_add_13 rfl (lv_at hl 0 rfl) ?_
  refine va_get (D := D) (ci := 20) (v := .ref m2) (C := RX16) (T := TX16) (N := 26) hx hb hts iv_k_X16_add_X16 hown hK hP 3 rfl rfl 3 (by decide) (hts (.fieldLink RX16 16 "AnswerFoldModel" "rules" "Ljava/util/ArrayList;") (by decide +kernel)) (fun _ h9 => h9) rfl dX16_add_14 ?_
  refine wq_i (wc := [(m2, .inr (4, [.int (0 + 1), .ref q121, .int 1]))]) (wr := [(h1, .inr (19, [.int f0, .int f1, .int f2, .int f3, .int f4, .int f5, .int f6, .ref f7, .ref f8])), (q121, .inl (ty 6, 10, .inr (.inr (.inr (.inr (va_up (fun _ => none) (0 : Int32).toNatClampNeg (some h1))))))), (m0, .inr (20, [.int 0, .int 0, .ref m1, .ref m2, .ref m3, .int 0, .ref m4, .ref m5, .ref m6, .int 0, .ref m7, .ref m8, .ref m9, .int 0, .ref m10, .int 0, .ref m11, .ref m12, .ref m13, .int 0, .ref m14, .int 0, .int 0, .int 0, .ref m15, .ref m16]))]) (va_runV (As := []) (rest := []) ⟨hx, hb, hml, hown, hts⟩ (k_size l D ty td mi H.size m2 q121 (0 + 1) 1) (cwV 0 hts gv_k_X16_add_2 rfl rfl rfl (by decide +kernel) ⟨(Nat.le_of_ble_eq_true rfl), (Nat.le_of_ble_eq_true rfl)⟩) (wq_preV hP hD hK hE hS hA [1] rfl (by decide) 1 4 rfl rfl) rfl rfl hl.1 rfl (lv_room (Nat.le_of_ble_eq_true rfl)) dX16_add_17 ⟨(Nat.le_of_ble_eq_true rfl), (Nat.le_of_ble_eq_true rfl)⟩) hS hA hP hD [1] [0, 2, 3] rfl rfl (by decide) (by decide) (fun r u H locs hw hP hD hS => ?_)
  obtain ⟨rfl, rfl⟩ := hw
  have hP : va_P D vwCl [(h1, .inr (19, [.int f0, .int f1, .int f2, .int f3, .int f4, .int f5, .int f6, .ref f7, .ref f8])), (q121, .inl (ty 6, 10, .inr (.inr (.inr (.inr (va_up (fun _ => none) (0 : Int32).toNatClampNeg (some h1))))))), (m0, .inr (20, [.int 0, .int 0, .ref m1, .ref m2, .ref m3, .int 0, .ref m4, .ref m5, .ref m6, .int 0, .ref m7, .ref m8, .ref m9, .int 0, .ref m10, .int 0, .ref m11, .ref m12, .ref m13, .int 0, .ref m14, .int 0, .int 0, .int 0, .ref m15, .ref m16])), (m2, .inr (4, [.int (0 + 1), .ref q121, .int 1]))] H := hP
  have hD : va_D A [(h1, .inr (19, [.int f0, .int f1, .int f2, .int f3, .int f4, .int f5, .int f6, .ref f7, .ref f8])), (q121, .inl (ty 6, 10, .inr (.inr (.inr (.inr (va_up (fun _ => none) (0 : Int32).toNatClampNeg (some h1))))))), (m0, .inr (20, [.int 0, .int 0, .ref m1, .ref m2, .ref m3, .int 0, .ref m4, .ref m5, .ref m6, .int 0, .ref m7, .ref m8, .ref m9, .int 0, .ref m10, .int 0, .ref m11, .ref m12, .ref m13, .int 0, .ref m14, .int 0, .int 0, .int 0, .ref m15, .ref m16])), (m2, .inr (4, [.int (0 + 1), .ref q121, .int 1]))] := hD
  refine W.widen (k := 1) (n := 10) (Nat.le_of_ble_eq_true rfl) (Nat.le_of_ble_eq_true rfl) ?_
  refine lv_iconst (v := 1) hx hb dX16_add_20 (by decide) ?_
  refine lv_isub hx hb dX16_add_21 ?_
  refine lv_topi (nm_r (e' := 0) (by decide) ?_)
  have hP9 := hP.sub (ws' := [(m0, .inr (20, [.int 0, .int 0, .ref m1, .ref m2, .ref m3, .int 0, .ref m4, .ref m5, .ref m6, .int 0, .ref m7, .ref m8, .ref m9, .int 0, .ref m10, .int 0, .ref m11, .ref m12, .ref m13, .int 0, .ref m14, .int 0, .int 0, .int 0, .ref m15, .ref m16]))]) [2] rfl
  have hD9 := hD.sub (ws' := [(m0, .inr (20, [.int 0, .int 0, .ref m1, .ref m2, .ref m3, .int 0, .ref m4, .ref m5, .ref m6, .int 0, .ref m7, .ref m8, .ref m9, .int 0, .ref m10, .int 0, .ref m11, .ref m12, .ref m13, .int 0, .ref m14, .int 0, .int 0, .int 0, .ref m15, .ref m16]))]) [2] (by decide) rfl
  refine W.widen (k := 1) (n := 10) (Nat.le_of_ble_eq_true rfl) (Nat.le_of_ble_eq_true rfl) ?_
  exact W.iret (v := 0) hx hb hr (fun t ht hW => ⟨⟨0, [(m0, .inr (20, [.int 0, .int 0, .ref m1, .ref m2, .ref m3, .int 0, .ref m4, .ref m5, .ref m6, .int 0, .ref m7, .ref m8, .ref m9, .int 0, .ref m10, .int 0, .ref m11, .ref m12, .ref m13, .int 0, .ref m14, .int 0, .int 0, .int 0, .ref m15, .ref m16]))], rfl, ⟨rfl, rfl⟩, wq_B.of ht hP9 hD9⟩, hS.F ht⟩) hS.2.2 dX16_add_22
def vs_k_X16_addDisjunction : List Cond := .code yX16_addDisjunction cX16_addDisjunction 2 (some .int) :: ([.fieldLink RX16 65 "AnswerFoldModel" "thrown" "I", .methodLink RX16 72 yX16_in, .static yX16_in, .initialized RX16, .methodLink RX16 87 yX16_fails, .instanceMethod yX16_fails, .selects RX16 yX16_fails yX16_fails, .fieldLink RX16 16 "AnswerFoldModel" "rules" "Ljava/util/ArrayList;", .methodLink RX16 76 yJx4a65c_size_8abf5, .instanceMethod yJx4a65c_size_8abf5, .selects RJx4a65c yJx4a65c_size_8abf5 yJx4a65c_size_8abf5, .initialized RJx4a65c, .classLink RX16 98 RX15, .instantiable RX15 9, .initialized RX15, .methodLink RX16 100 yX15_init, .instanceMethod yX15_init, .methodLink RX16 103 yX16_add, .instanceMethod yX16_add, .selects RX16 yX16_add yX16_add] ++ (u_ws RX16 TX16 26 ++ (vs_k_X16_in ++ (vs_k_X16_fails_1_1 ++ (vs_k_X16_fails_0_1 ++ (vs_k_size ++ (vs_k_X16_fails_0_2 ++ (u_ws RX15 TX15 9 ++ (vs_k_X15_init_d ++ (vs_k_X16_add))))))))))
theorem iv_k_X16_addDisjunction_X15 : ∀ w ∈ u_ws RX15 TX15 9, w ∈ vs_k_X16_addDisjunction := (fun _ h => List.mem_cons_of_mem _ (List.mem_append_right _ (List.mem_append_right _ (List.mem_append_right _ (List.mem_append_right _ (List.mem_append_right _ (List.mem_append_right _ (List.mem_append_right _ (List.mem_append_left _ h)))))))))
theorem iv_k_X16_addDisjunction_X16 : ∀ w ∈ u_ws RX16 TX16 26, w ∈ vs_k_X16_addDisjunction := (fun _ h => List.mem_cons_of_mem _ (List.mem_append_right _ (List.mem_append_left _ h)))
set_option maxRecDepth 20000 in
theorem gv_k_X16_addDisjunction_0 : GoodIn vs_k_X16_addDisjunction (va_wsS RX16 72 yX16_in vs_k_X16_in) := goodIn_app (goodIn_sub (by decide +kernel) (by decide +kernel)) (goodIn_sub (fun _ h => List.mem_cons_of_mem _ (List.mem_append_right _ (List.mem_append_right _ (List.mem_append_left _ h)))) (by decide +kernel))
set_option maxRecDepth 20000 in
theorem gv_k_X16_addDisjunction_1 : GoodIn vs_k_X16_addDisjunction (wsV RX16 87 RX16 yX16_fails vs_k_X16_fails_1_1) := goodIn_app (goodIn_sub (by decide +kernel) (by decide +kernel)) (goodIn_sub (fun _ h => List.mem_cons_of_mem _ (List.mem_append_right _ (List.mem_append_right _ (List.mem_append_right _ (List.mem_append_left _ h))))) (by decide +kernel))
set_option maxRecDepth 20000 in
theorem gv_k_X16_addDisjunction_2 : GoodIn vs_k_X16_addDisjunction (wsV RX16 87 RX16 yX16_fails vs_k_X16_fails_1_1) := goodIn_app (goodIn_sub (by decide +kernel) (by decide +kernel)) (goodIn_sub (fun _ h => List.mem_cons_of_mem _ (List.mem_append_right _ (List.mem_append_right _ (List.mem_append_right _ (List.mem_append_left _ h))))) (by decide +kernel))
set_option maxRecDepth 20000 in
theorem gv_k_X16_addDisjunction_3 : GoodIn vs_k_X16_addDisjunction (wsV RX16 87 RX16 yX16_fails vs_k_X16_fails_0_1) := goodIn_app (goodIn_sub (by decide +kernel) (by decide +kernel)) (goodIn_sub (fun _ h => List.mem_cons_of_mem _ (List.mem_append_right _ (List.mem_append_right _ (List.mem_append_right _ (List.mem_append_right _ (List.mem_append_left _ h)))))) (by decide +kernel))
set_option maxRecDepth 20000 in
theorem gv_k_X16_addDisjunction_4 : GoodIn vs_k_X16_addDisjunction (wsV RX16 76 RJx4a65c yJx4a65c_size_8abf5 vs_k_size) := goodIn_app (goodIn_sub (by decide +kernel) (by decide +kernel)) (goodIn_sub (fun _ h => List.mem_cons_of_mem _ (List.mem_append_right _ (List.mem_append_right _ (List.mem_append_right _ (List.mem_append_right _ (List.mem_append_right _ (List.mem_append_left _ h))))))) (by decide +kernel))
set_option maxRecDepth 20000 in
theorem gv_k_X16_addDisjunction_5 : GoodIn vs_k_X16_addDisjunction (wsV RX16 87 RX16 yX16_fails vs_k_X16_fails_0_2) := goodIn_app (goodIn_sub (by decide +kernel) (by decide +kernel)) (goodIn_sub (fun _ h => List.mem_cons_of_mem _ (List.mem_append_right _ (List.mem_append_right _ (List.mem_append_right _ (List.mem_append_right _ (List.mem_append_right _ (List.mem_append_right _ (List.mem_append_left _ h)))))))) (by decide +kernel))
set_option maxRecDepth 20000 in
theorem gv_k_X16_addDisjunction_6 : GoodIn vs_k_X16_addDisjunction (vs_k_X15_init_d) := (goodIn_sub (fun _ h => List.mem_cons_of_mem _ (List.mem_append_right _ (List.mem_append_right _ (List.mem_append_right _ (List.mem_append_right _ (List.mem_append_right _ (List.mem_append_right _ (List.mem_append_right _ (List.mem_append_right _ (List.mem_append_left _ h)))))))))) (by decide +kernel))
set_option maxRecDepth 20000 in
theorem gv_k_X16_addDisjunction_7 : GoodIn vs_k_X16_addDisjunction (wsV RX16 103 RX16 yX16_add vs_k_X16_add) := goodIn_app (goodIn_sub (by decide +kernel) (by decide +kernel)) (goodIn_sub (fun _ h => List.mem_cons_of_mem _ (List.mem_append_right _ (List.mem_append_right _ (List.mem_append_right _ (List.mem_append_right _ (List.mem_append_right _ (List.mem_append_right _ (List.mem_append_right _ (List.mem_append_right _ (List.mem_append_right _ (h))))))))))) (by decide +kernel))
set_option maxHeartbeats 4000000 in
set_option maxRecDepth 100000 in
theorem k_X16_addDisjunction (l : Launch) (D : va_G) (ty : Nat → ClassId) (td mi sz : Nat) (m0 : Nat) (m1 : Nat) (m2 : Nat) (m3 : Nat) (m4 : Nat) (m5 : Nat) (m6 : Nat) (m7 : Nat) (m8 : Nat) (m9 : Nat) (m10 : Nat) (m11 : Nat) (m12 : Nat) (m13 : Nat) (m14 : Nat) (m15 : Nat) (m16 : Nat) (k1 : Int32) : Met l yX16_addDisjunction vs_k_X16_addDisjunction { frames := 6, cells := 4, slots := 25, locals := 122 } (va_Pc [.ref m0, .int k1] (wq_P D ty td mi [(m0, .inr (20, [.int 0, .int 0, .ref m1, .ref m2, .ref m3, .int 0, .ref m4, .ref m5, .ref m6, .int 0, .ref m7, .ref m8, .ref m9, .int 0, .ref m10, .int 0, .ref m11, .ref m12, .ref m13, .int 0, .ref m14, .int 0, .int 0, .int 0, .ref m15, .ref m16])), (m2, .inr (4, [.int 0, .ref td, .int 0]))] sz)) (va_Qi (fun (r : Int32) (u : va_W) => (r = 0 ∧ (k1 < 0) ∧ (u = [(m0, .inr (20, [.int 1, .int 0, .ref m1, .ref m2, .ref m3, .int 0, .ref m4, .ref m5, .ref m6, .int 0, .ref m7, .ref m8, .ref m9, .int 0, .ref m10, .int 0, .ref m11, .ref m12, .ref m13, .int 0, .ref m14, .int 0, .int 0, .int 0, .ref m15, .ref m16]))])) ∨ (r = 0 ∧ (¬ (k1 < 0)) ∧ (3 < k1) ∧ (u = [(m0, .inr (20, [.int 1, .int 0, .ref m1, .ref m2, .ref m3, .int 0, .ref m4, .ref m5, .ref m6, .int 0, .ref m7, .ref m8, .ref m9, .int 0, .ref m10, .int 0, .ref m11, .ref m12, .ref m13, .int 0, .ref m14, .int 0, .int 0, .int 0, .ref m15, .ref m16]))])) ∨ (r = 0 ∧ (¬ (k1 < 0)) ∧ (¬ (3 < k1)) ∧ (u = [(m0, .inr (20, [.int 0, .int 0, .ref m1, .ref m2, .ref m3, .int 0, .ref m4, .ref m5, .ref m6, .int 0, .ref m7, .ref m8, .ref m9, .int 0, .ref m10, .int 0, .ref m11, .ref m12, .ref m13, .int 0, .ref m14, .int 0, .int 0, .int 0, .ref m15, .ref m16]))]))) (wq_B D (va_A [(m0, .inr (20, [.int 0, .int 0, .ref m1, .ref m2, .ref m3, .int 0, .ref m4, .ref m5, .ref m6, .int 0, .ref m7, .ref m8, .ref m9, .int 0, .ref m10, .int 0, .ref m11, .ref m12, .ref m13, .int 0, .ref m14, .int 0, .int 0, .int 0, .ref m15, .ref m16])), (m2, .inr (4, [.int 0, .ref td, .int 0]))] sz)) (va_A [(m0, .inr (20, [.int 0, .int 0, .ref m1, .ref m2, .ref m3, .int 0, .ref m4, .ref m5, .ref m6, .int 0, .ref m7, .ref m8, .ref m9, .int 0, .ref m10, .int 0, .ref m11, .ref m12, .ref m13, .int 0, .ref m14, .int 0, .int 0, .int 0, .ref m15, .ref m16])), (m2, .inr (4, [.int 0, .ref td, .int 0]))] sz)) 4 25 (va_A [(m0, .inr (20, [.int 0, .int 0, .ref m1, .ref m2, .ref m3, .int 0, .ref m4, .ref m5, .ref m6, .int 0, .ref m7, .ref m8, .ref m9, .int 0, .ref m10, .int 0, .ref m11, .ref m12, .ref m13, .int 0, .ref m14, .int 0, .int 0, .int 0, .ref m15, .ref m16])), (m2, .inr (4, [.int 0, .ref td, .int 0]))] sz) := by
  refine Met.ofW (cc := cX16_addDisjunction) (maxL := 2) (ret := (some .int)) (by decide) rfl ?_
  intro p e s m args below meth c s₁ B hml hv
  obtain ⟨rfl, hsz, hP, hK, hD0, hE⟩ := hv
  have hx := B.exec
  have hb := B.bytes
  have hr := B.returns
  have hts := atoms_spec (ws := vs_k_X16_addDisjunction) B.pre
  have hown : s.vm.findClass RX16 = some m.cls := findClass_of_methodNamed B.named
  have hlocks := B.notSynchronized
  subst hsz
  have hD := hD0.self (sz := s.heap.size)
  generalize hAe : va_A [(m0, .inr (20, [.int 0, .int 0, .ref m1, .ref m2, .ref m3, .int 0, .ref m4, .ref m5, .ref m6, .int 0, .ref m7, .ref m8, .ref m9, .int 0, .ref m10, .int 0, .ref m11, .ref m12, .ref m13, .int 0, .ref m14, .int 0, .int 0, .int 0, .ref m15, .ref m16])), (m2, .inr (4, [.int 0, .ref td, .int 0]))] s.heap.size = A at hD hE ⊢
  have hA : ∀ q : Nat, s.heap.size ≤ q → A q := fun q h => by rw [← hAe]; exact Or.inr h
  have hS : va_S A s.heap s.heap [] := va_S.rf
  have hP : va_P D vwCl [(m0, .inr (20, [.int 0, .int 0, .ref m1, .ref m2, .ref m3, .int 0, .ref m4, .ref m5, .ref m6, .int 0, .ref m7, .ref m8, .ref m9, .int 0, .ref m10, .int 0, .ref m11, .ref m12, .ref m13, .int 0, .ref m14, .int 0, .int 0, .int 0, .ref m15, .ref m16])), (m2, .inr (4, [.int 0, .ref td, .int 0]))] s.heap := hP
  have hl := lv_entry ([.ref m0, .int k1]) (n := 2) (Nat.le_of_ble_eq_true rfl)
  rw [lg_entry_eq]
  generalize (lg_sl ([.ref m0, .int k1]) ++ List.replicate (2 - (lg_sl ([.ref m0, .int k1])).length) Slot.unset).toArray = ls at hl ⊢
  have hl : lv_has ls 2 [(0, .ref m0), (1, .int k1)] := hl
  refine lv_aload_n hx hb dX16_addDisjunction_0 rfl (lv_at hl 0 rfl) ?_
  refine lv_iconst (v := 0) hx hb dX16_addDisjunction_1 (by decide) ?_
  refine va_put (D := D) (ci := 20) (v := .int 0) (ty := tyX16 0) (C := RX16) (T := TX16) (N := 26) hx hb hts iv_k_X16_addDisjunction_X16 tyX16 tyX16_ok nmX16 hown hK hP hD hS 0 rfl rfl 0 (by decide) (hts (.fieldLink RX16 65 "AnswerFoldModel" "thrown" "I") (by decide +kernel)) (fun _ h9 => h9) rfl (by decide +kernel) rfl rfl (Nat.le_of_ble_eq_true rfl) dX16_addDisjunction_2 (fun H locs hP hD hS => ?_)
  have hP : va_P D vwCl [(m0, .inr (20, [.int 0, .int 0, .ref m1, .ref m2, .ref m3, .int 0, .ref m4, .ref m5, .ref m6, .int 0, .ref m7, .ref m8, .ref m9, .int 0, .ref m10, .int 0, .ref m11, .ref m12, .ref m13, .int 0, .ref m14, .int 0, .int 0, .int 0, .ref m15, .ref m16])), (m2, .inr (4, [.int 0, .ref td, .int 0]))] H := hP
  have hD : va_D A [(m0, .inr (20, [.int 0, .int 0, .ref m1, .ref m2, .ref m3, .int 0, .ref m4, .ref m5, .ref m6, .int 0, .ref m7, .ref m8, .ref m9, .int 0, .ref m10, .int 0, .ref m11, .ref m12, .ref m13, .int 0, .ref m14, .int 0, .int 0, .int 0, .ref m15, .ref m16])), (m2, .inr (4, [.int 0, .ref td, .int 0]))] := hD
  refine lv_aload_n hx hb dX16_addDisjunction_5 rfl (lv_at hl 0 rfl) ?_
  refine lv_iload_n hx hb dX16_addDisjunction_6 rfl (lv_at hl 1 rfl) ?_
  refine lv_iconst (v := 0) hx hb dX16_addDisjunction_7 (by decide) ?_
  refine lv_iconst (v := 3) hx hb dX16_addDisjunction_8 (by decide) ?_
  refine wq_i (wc := []) (wr := [(m0, .inr (20, [.int 0, .int 0, .ref m1, .ref m2, .ref m3, .int 0, .ref m4, .ref m5, .ref m6, .int 0, .ref m7, .ref m8, .ref m9, .int 0, .ref m10, .int 0, .ref m11, .ref m12, .ref m13, .int 0, .ref m14, .int 0, .int 0, .int 0, .ref m15, .ref m16])), (m2, .inr (4, [.int 0, .ref td, .int 0]))]) (va_runS (As := [.int k1, .int 0, .int 3]) (rest := [.ref m0]) ⟨hx, hb, hml, hown, hts⟩ (k_X16_in l D ty td mi H.size k1 0 3) (va_cwS 3 hts gv_k_X16_addDisjunction_0 rfl rfl rfl (by decide +kernel) ⟨(Nat.le_of_ble_eq_true rfl), (Nat.le_of_ble_eq_true rfl)⟩) (wq_preS hP hD hK hE hS hA [] rfl (by decide)) rfl rfl hl.1 rfl (lv_room (Nat.le_of_ble_eq_true rfl)) dX16_addDisjunction_9 ⟨(Nat.le_of_ble_eq_true rfl), (Nat.le_of_ble_eq_true rfl)⟩) hS hA hP hD [] [0, 1] rfl rfl (by decide) (by decide) (fun r u H locs hw hP hD hS => ?_)
  rcases hw with ⟨rfl, c_1, rfl⟩ | ⟨rfl, c_2, c_3, rfl⟩ | ⟨rfl, c_4, c_5, rfl⟩
  · have hP : va_P D vwCl [(m0, .inr (20, [.int 0, .int 0, .ref m1, .ref m2, .ref m3, .int 0, .ref m4, .ref m5, .ref m6, .int 0, .ref m7, .ref m8, .ref m9, .int 0, .ref m10, .int 0, .ref m11, .ref m12, .ref m13, .int 0, .ref m14, .int 0, .int 0, .int 0, .ref m15, .ref m16])), (m2, .inr (4, [.int 0, .ref td, .int 0]))] H := hP
    have hD : va_D A [(m0, .inr (20, [.int 0, .int 0, .ref m1, .ref m2, .ref m3, .int 0, .ref m4, .ref m5, .ref m6, .int 0, .ref m7, .ref m8, .ref m9, .int 0, .ref m10, .int 0, .ref m11, .ref m12, .ref m13, .int 0, .ref m14, .int 0, .int 0, .int 0, .ref m15, .ref m16])), (m2, .inr (4, [.int 0, .ref td, .int 0]))] := hD
    refine W.widen (k := 0) (n := 0) (Nat.le_of_ble_eq_true rfl) (Nat.le_of_ble_eq_true rfl) ?_
    refine lv_if_ne (tgt := 19) hx hb dX16_addDisjunction_12 (by decide) (fun c0 => absurd (by decide) c0) (fun _ => ?_)
    refine lv_iconst (v := 1) hx hb dX16_addDisjunction_15 (by decide) ?_
    refine lv_goto (tgt := 20) hx hb dX16_addDisjunction_16 (by decide) ?_
    refine lv_iconst (v := 1) hx hb dX16_addDisjunction_20 (by decide) ?_
    refine wq_i (wc := [(m0, .inr (20, [.int 0, .int 0, .ref m1, .ref m2, .ref m3, .int 0, .ref m4, .ref m5, .ref m6, .int 0, .ref m7, .ref m8, .ref m9, .int 0, .ref m10, .int 0, .ref m11, .ref m12, .ref m13, .int 0, .ref m14, .int 0, .int 0, .int 0, .ref m15, .ref m16]))]) (wr := [(m2, .inr (4, [.int 0, .ref td, .int 0]))]) (va_runV (As := [.int 1, .int 1]) (rest := []) ⟨hx, hb, hml, hown, hts⟩ (k_X16_fails_1_1 l D ty td mi H.size m0 m1 m2 m3 m4 m5 m6 m7 m8 m9 m10 m11 m12 m13 m14 m15 m16 0) (cwV 2 hts gv_k_X16_addDisjunction_1 rfl rfl rfl (by decide +kernel) ⟨(Nat.le_of_ble_eq_true rfl), (Nat.le_of_ble_eq_true rfl)⟩) (wq_preV hP hD hK hE hS hA [0] rfl (by decide) 0 20 rfl rfl) rfl rfl hl.1 rfl (lv_room (Nat.le_of_ble_eq_true rfl)) dX16_addDisjunction_21 ⟨(Nat.le_of_ble_eq_true rfl), (Nat.le_of_ble_eq_true rfl)⟩) hS hA hP hD [0] [1] rfl rfl (by decide) (by decide) (fun r u H locs hw hP hD hS => ?_)
    obtain ⟨rfl, rfl⟩ := hw
    have hP : va_P D vwCl [(m2, .inr (4, [.int 0, .ref td, .int 0])), (m0, .inr (20, [.int 1, .int 0, .ref m1, .ref m2, .ref m3, .int 0, .ref m4, .ref m5, .ref m6, .int 0, .ref m7, .ref m8, .ref m9, .int 0, .ref m10, .int 0, .ref m11, .ref m12, .ref m13, .int 0, .ref m14, .int 0, .int 0, .int 0, .ref m15, .ref m16]))] H := hP
    have hD : va_D A [(m2, .inr (4, [.int 0, .ref td, .int 0])), (m0, .inr (20, [.int 1, .int 0, .ref m1, .ref m2, .ref m3, .int 0, .ref m4, .ref m5, .ref m6, .int 0, .ref m7, .ref m8, .ref m9, .int 0, .ref m10, .int 0, .ref m11, .ref m12, .ref m13, .int 0, .ref m14, .int 0, .int 0, .int 0, .ref m15, .ref m16]))] := hD
    refine W.widen (k := 0) (n := 0) (Nat.le_of_ble_eq_true rfl) (Nat.le_of_ble_eq_true rfl) ?_
    refine lv_if_ne (tgt := 52) hx hb dX16_addDisjunction_24 (by decide) (fun _ => ?_) (fun c0 => absurd c0 (by decide))
    refine lv_iconst (v := 0) hx hb dX16_addDisjunction_52 (by decide) ?_
    refine lv_goto (tgt := 70) hx hb dX16_addDisjunction_53 (by decide) ?_
    have hP9 := hP.sub (ws' := [(m0, .inr (20, [.int 1, .int 0, .ref m1, .ref m2, .ref m3, .int 0, .ref m4, .ref m5, .ref m6, .int 0, .ref m7, .ref m8, .ref m9, .int 0, .ref m10, .int 0, .ref m11, .ref m12, .ref m13, .int 0, .ref m14, .int 0, .int 0, .int 0, .ref m15, .ref m16]))]) [1] rfl
    have hD9 := hD.sub (ws' := [(m0, .inr (20, [.int 1, .int 0, .ref m1, .ref m2, .ref m3, .int 0, .ref m4, .ref m5, .ref m6, .int 0, .ref m7, .ref m8, .ref m9, .int 0, .ref m10, .int 0, .ref m11, .ref m12, .ref m13, .int 0, .ref m14, .int 0, .int 0, .int 0, .ref m15, .ref m16]))]) [1] (by decide) rfl
    refine W.widen (k := 4) (n := 25) (Nat.le_of_ble_eq_true rfl) (Nat.le_of_ble_eq_true rfl) ?_
    exact W.iret (v := 0) hx hb hr (fun t ht hW => ⟨⟨0, [(m0, .inr (20, [.int 1, .int 0, .ref m1, .ref m2, .ref m3, .int 0, .ref m4, .ref m5, .ref m6, .int 0, .ref m7, .ref m8, .ref m9, .int 0, .ref m10, .int 0, .ref m11, .ref m12, .ref m13, .int 0, .ref m14, .int 0, .int 0, .int 0, .ref m15, .ref m16]))], rfl, (Or.inl ⟨rfl, c_1, rfl⟩), wq_B.of ht hP9 hD9⟩, hS.F ht⟩) hS.2.2 dX16_addDisjunction_70
  · have hP : va_P D vwCl [(m0, .inr (20, [.int 0, .int 0, .ref m1, .ref m2, .ref m3, .int 0, .ref m4, .ref m5, .ref m6, .int 0, .ref m7, .ref m8, .ref m9, .int 0, .ref m10, .int 0, .ref m11, .ref m12, .ref m13, .int 0, .ref m14, .int 0, .int 0, .int 0, .ref m15, .ref m16])), (m2, .inr (4, [.int 0, .ref td, .int 0]))] H := hP
    have hD : va_D A [(m0, .inr (20, [.int 0, .int 0, .ref m1, .ref m2, .ref m3, .int 0, .ref m4, .ref m5, .ref m6, .int 0, .ref m7, .ref m8, .ref m9, .int 0, .ref m10, .int 0, .ref m11, .ref m12, .ref m13, .int 0, .ref m14, .int 0, .int 0, .int 0, .ref m15, .ref m16])), (m2, .inr (4, [.int 0, .ref td, .int 0]))] := hD
    refine W.widen (k := 0) (n := 0) (Nat.le_of_ble_eq_true rfl) (Nat.le_of_ble_eq_true rfl) ?_
    refine lv_if_ne (tgt := 19) hx hb dX16_addDisjunction_12 (by decide) (fun c0 => absurd (by decide) c0) (fun _ => ?_)
    refine lv_iconst (v := 1) hx hb dX16_addDisjunction_15 (by decide) ?_
    refine lv_goto (tgt := 20) hx hb dX16_addDisjunction_16 (by decide) ?_
    refine lv_iconst (v := 1) hx hb dX16_addDisjunction_20 (by decide) ?_
    refine wq_i (wc := [(m0, .inr (20, [.int 0, .int 0, .ref m1, .ref m2, .ref m3, .int 0, .ref m4, .ref m5, .ref m6, .int 0, .ref m7, .ref m8, .ref m9, .int 0, .ref m10, .int 0, .ref m11, .ref m12, .ref m13, .int 0, .ref m14, .int 0, .int 0, .int 0, .ref m15, .ref m16]))]) (wr := [(m2, .inr (4, [.int 0, .ref td, .int 0]))]) (va_runV (As := [.int 1, .int 1]) (rest := []) ⟨hx, hb, hml, hown, hts⟩ (k_X16_fails_1_1 l D ty td mi H.size m0 m1 m2 m3 m4 m5 m6 m7 m8 m9 m10 m11 m12 m13 m14 m15 m16 0) (cwV 2 hts gv_k_X16_addDisjunction_2 rfl rfl rfl (by decide +kernel) ⟨(Nat.le_of_ble_eq_true rfl), (Nat.le_of_ble_eq_true rfl)⟩) (wq_preV hP hD hK hE hS hA [0] rfl (by decide) 0 20 rfl rfl) rfl rfl hl.1 rfl (lv_room (Nat.le_of_ble_eq_true rfl)) dX16_addDisjunction_21 ⟨(Nat.le_of_ble_eq_true rfl), (Nat.le_of_ble_eq_true rfl)⟩) hS hA hP hD [0] [1] rfl rfl (by decide) (by decide) (fun r u H locs hw hP hD hS => ?_)
    obtain ⟨rfl, rfl⟩ := hw
    have hP : va_P D vwCl [(m2, .inr (4, [.int 0, .ref td, .int 0])), (m0, .inr (20, [.int 1, .int 0, .ref m1, .ref m2, .ref m3, .int 0, .ref m4, .ref m5, .ref m6, .int 0, .ref m7, .ref m8, .ref m9, .int 0, .ref m10, .int 0, .ref m11, .ref m12, .ref m13, .int 0, .ref m14, .int 0, .int 0, .int 0, .ref m15, .ref m16]))] H := hP
    have hD : va_D A [(m2, .inr (4, [.int 0, .ref td, .int 0])), (m0, .inr (20, [.int 1, .int 0, .ref m1, .ref m2, .ref m3, .int 0, .ref m4, .ref m5, .ref m6, .int 0, .ref m7, .ref m8, .ref m9, .int 0, .ref m10, .int 0, .ref m11, .ref m12, .ref m13, .int 0, .ref m14, .int 0, .int 0, .int 0, .ref m15, .ref m16]))] := hD
    refine W.widen (k := 0) (n := 0) (Nat.le_of_ble_eq_true rfl) (Nat.le_of_ble_eq_true rfl) ?_
    refine lv_if_ne (tgt := 52) hx hb dX16_addDisjunction_24 (by decide) (fun _ => ?_) (fun c0 => absurd c0 (by decide))
    refine lv_iconst (v := 0) hx hb dX16_addDisjunction_52 (by decide) ?_
    refine lv_goto (tgt := 70) hx hb dX16_addDisjunction_53 (by decide) ?_
    have hP9 := hP.sub (ws' := [(m0, .inr (20, [.int 1, .int 0, .ref m1, .ref m2, .ref m3, .int 0, .ref m4, .ref m5, .ref m6, .int 0, .ref m7, .ref m8, .ref m9, .int 0, .ref m10, .int 0, .ref m11, .ref m12, .ref m13, .int 0, .ref m14, .int 0, .int 0, .int 0, .ref m15, .ref m16]))]) [1] rfl
    have hD9 := hD.sub (ws' := [(m0, .inr (20, [.int 1, .int 0, .ref m1, .ref m2, .ref m3, .int 0, .ref m4, .ref m5, .ref m6, .int 0, .ref m7, .ref m8, .ref m9, .int 0, .ref m10, .int 0, .ref m11, .ref m12, .ref m13, .int 0, .ref m14, .int 0, .int 0, .int 0, .ref m15, .ref m16]))]) [1] (by decide) rfl
    refine W.widen (k := 4) (n := 25) (Nat.le_of_ble_eq_true rfl) (Nat.le_of_ble_eq_true rfl) ?_
    exact W.iret (v := 0) hx hb hr (fun t ht hW => ⟨⟨0, [(m0, .inr (20, [.int 1, .int 0, .ref m1, .ref m2, .ref m3, .int 0, .ref m4, .ref m5, .ref m6, .int 0, .ref m7, .ref m8, .ref m9, .int 0, .ref m10, .int 0, .ref m11, .ref m12, .ref m13, .int 0, .ref m14, .int 0, .int 0, .int 0, .ref m15, .ref m16]))], rfl, (Or.inr (Or.inl ⟨rfl, c_2, c_3, rfl⟩)), wq_B.of ht hP9 hD9⟩, hS.F ht⟩) hS.2.2 dX16_addDisjunction_70
  · have hP : va_P D vwCl [(m0, .inr (20, [.int 0, .int 0, .ref m1, .ref m2, .ref m3, .int 0, .ref m4, .ref m5, .ref m6, .int 0, .ref m7, .ref m8, .ref m9, .int 0, .ref m10, .int 0, .ref m11, .ref m12, .ref m13, .int 0, .ref m14, .int 0, .int 0, .int 0, .ref m15, .ref m16])), (m2, .inr (4, [.int 0, .ref td, .int 0]))] H := hP
    have hD : va_D A [(m0, .inr (20, [.int 0, .int 0, .ref m1, .ref m2, .ref m3, .int 0, .ref m4, .ref m5, .ref m6, .int 0, .ref m7, .ref m8, .ref m9, .int 0, .ref m10, .int 0, .ref m11, .ref m12, .ref m13, .int 0, .ref m14, .int 0, .int 0, .int 0, .ref m15, .ref m16])), (m2, .inr (4, [.int 0, .ref td, .int 0]))] := hD
    refine W.widen (k := 0) (n := 0) (Nat.le_of_ble_eq_true rfl) (Nat.le_of_ble_eq_true rfl) ?_
    refine lv_if_ne (tgt := 19) hx hb dX16_addDisjunction_12 (by decide) (fun _ => ?_) (fun c0 => absurd c0 (by decide))
    refine lv_iconst (v := 0) hx hb dX16_addDisjunction_19 (by decide) ?_
    refine lv_iconst (v := 1) hx hb dX16_addDisjunction_20 (by decide) ?_
    refine wq_i (wc := [(m0, .inr (20, [.int 0, .int 0, .ref m1, .ref m2, .ref m3, .int 0, .ref m4, .ref m5, .ref m6, .int 0, .ref m7, .ref m8, .ref m9, .int 0, .ref m10, .int 0, .ref m11, .ref m12, .ref m13, .int 0, .ref m14, .int 0, .int 0, .int 0, .ref m15, .ref m16]))]) (wr := [(m2, .inr (4, [.int 0, .ref td, .int 0]))]) (va_runV (As := [.int 0, .int 1]) (rest := []) ⟨hx, hb, hml, hown, hts⟩ (k_X16_fails_0_1 l D ty td mi H.size m0 m1 m2 m3 m4 m5 m6 m7 m8 m9 m10 m11 m12 m13 m14 m15 m16 0) (cwV 2 hts gv_k_X16_addDisjunction_3 rfl rfl rfl (by decide +kernel) ⟨(Nat.le_of_ble_eq_true rfl), (Nat.le_of_ble_eq_true rfl)⟩) (wq_preV hP hD hK hE hS hA [0] rfl (by decide) 0 20 rfl rfl) rfl rfl hl.1 rfl (lv_room (Nat.le_of_ble_eq_true rfl)) dX16_addDisjunction_21 ⟨(Nat.le_of_ble_eq_true rfl), (Nat.le_of_ble_eq_true rfl)⟩) hS hA hP hD [0] [1] rfl rfl (by decide) (by decide) (fun r u H locs hw hP hD hS => ?_)
    obtain ⟨rfl, rfl⟩ := hw
    have hP : va_P D vwCl [(m2, .inr (4, [.int 0, .ref td, .int 0])), (m0, .inr (20, [.int 0, .int 0, .ref m1, .ref m2, .ref m3, .int 0, .ref m4, .ref m5, .ref m6, .int 0, .ref m7, .ref m8, .ref m9, .int 0, .ref m10, .int 0, .ref m11, .ref m12, .ref m13, .int 0, .ref m14, .int 0, .int 0, .int 0, .ref m15, .ref m16]))] H := hP
    have hD : va_D A [(m2, .inr (4, [.int 0, .ref td, .int 0])), (m0, .inr (20, [.int 0, .int 0, .ref m1, .ref m2, .ref m3, .int 0, .ref m4, .ref m5, .ref m6, .int 0, .ref m7, .ref m8, .ref m9, .int 0, .ref m10, .int 0, .ref m11, .ref m12, .ref m13, .int 0, .ref m14, .int 0, .int 0, .int 0, .ref m15, .ref m16]))] := hD
    refine W.widen (k := 0) (n := 0) (Nat.le_of_ble_eq_true rfl) (Nat.le_of_ble_eq_true rfl) ?_
    refine lv_if_ne (tgt := 52) hx hb dX16_addDisjunction_24 (by decide) (fun c0 => absurd (by decide) c0) (fun _ => ?_)
    refine lv_aload_n hx hb dX16_addDisjunction_27 rfl (lv_at hl 0 rfl) ?_
    refine lv_aload_n hx hb dX16_addDisjunction_28 rfl (lv_at hl 0 rfl) ?_
    refine va_get (D := D) (ci := 20) (v := .ref m2) (C := RX16) (T := TX16) (N := 26) hx hb hts iv_k_X16_addDisjunction_X16 hown hK hP 1 rfl rfl 3 (by decide) (hts (.fieldLink RX16 16 "AnswerFoldModel" "rules" "Ljava/util/ArrayList;") (by decide +kernel)) (fun _ h9 => h9) rfl dX16_addDisjunction_29 ?_
    refine wq_i (wc := [(m2, .inr (4, [.int 0, .ref td, .int 0]))]) (wr := [(m0, .inr (20, [.int 0, .int 0, .ref m1, .ref m2, .ref m3, .int 0, .ref m4, .ref m5, .ref m6, .int 0, .ref m7, .ref m8, .ref m9, .int 0, .ref m10, .int 0, .ref m11, .ref m12, .ref m13, .int 0, .ref m14, .int 0, .int 0, .int 0, .ref m15, .ref m16]))]) (va_runV (As := []) (rest := [.ref m0]) ⟨hx, hb, hml, hown, hts⟩ (k_size l D ty td mi H.size m2 td 0 0) (cwV 0 hts gv_k_X16_addDisjunction_4 rfl rfl rfl (by decide +kernel) ⟨(Nat.le_of_ble_eq_true rfl), (Nat.le_of_ble_eq_true rfl)⟩) (wq_preV hP hD hK hE hS hA [0] rfl (by decide) 0 4 rfl rfl) rfl rfl hl.1 rfl (lv_room (Nat.le_of_ble_eq_true rfl)) dX16_addDisjunction_32 ⟨(Nat.le_of_ble_eq_true rfl), (Nat.le_of_ble_eq_true rfl)⟩) hS hA hP hD [0] [1] rfl rfl (by decide) (by decide) (fun r u H locs hw hP hD hS => ?_)
    obtain ⟨rfl, rfl⟩ := hw
    have hP : va_P D vwCl [(m0, .inr (20, [.int 0, .int 0, .ref m1, .ref m2, .ref m3, .int 0, .ref m4, .ref m5, .ref m6, .int 0, .ref m7, .ref m8, .ref m9, .int 0, .ref m10, .int 0, .ref m11, .ref m12, .ref m13, .int 0, .ref m14, .int 0, .int 0, .int 0, .ref m15, .ref m16])), (m2, .inr (4, [.int 0, .ref td, .int 0]))] H := hP
    have hD : va_D A [(m0, .inr (20, [.int 0, .int 0, .ref m1, .ref m2, .ref m3, .int 0, .ref m4, .ref m5, .ref m6, .int 0, .ref m7, .ref m8, .ref m9, .int 0, .ref m10, .int 0, .ref m11, .ref m12, .ref m13, .int 0, .ref m14, .int 0, .int 0, .int 0, .ref m15, .ref m16])), (m2, .inr (4, [.int 0, .ref td, .int 0]))] := hD
    refine W.widen (k := 0) (n := 0) (Nat.le_of_ble_eq_true rfl) (Nat.le_of_ble_eq_true rfl) ?_
    refine lv_bipush (v := 20) hx hb dX16_addDisjunction_35 (by decide) ?_
    refine lv_icmp_ne (tgt := 44) hx hb dX16_addDisjunction_37 (by decide) (fun _ => ?_) (fun c0 => absurd c0 (by decide))
    refine lv_iconst (v := 0) hx hb dX16_addDisjunction_44 (by decide) ?_
    refine lv_iconst (v := 2) hx hb dX16_addDisjunction_45 (by decide) ?_
    refine wq_i (wc := [(m0, .inr (20, [.int 0, .int 0, .ref m1, .ref m2, .ref m3, .int 0, .ref m4, .ref m5, .ref m6, .int 0, .ref m7, .ref m8, .ref m9, .int 0, .ref m10, .int 0, .ref m11, .ref m12, .ref m13, .int 0, .ref m14, .int 0, .int 0, .int 0, .ref m15, .ref m16]))]) (wr := [(m2, .inr (4, [.int 0, .ref td, .int 0]))]) (va_runV (As := [.int 0, .int 2]) (rest := []) ⟨hx, hb, hml, hown, hts⟩ (k_X16_fails_0_2 l D ty td mi H.size m0 m1 m2 m3 m4 m5 m6 m7 m8 m9 m10 m11 m12 m13 m14 m15 m16 0) (cwV 2 hts gv_k_X16_addDisjunction_5 rfl rfl rfl (by decide +kernel) ⟨(Nat.le_of_ble_eq_true rfl), (Nat.le_of_ble_eq_true rfl)⟩) (wq_preV hP hD hK hE hS hA [0] rfl (by decide) 0 20 rfl rfl) rfl rfl hl.1 rfl (lv_room (Nat.le_of_ble_eq_true rfl)) dX16_addDisjunction_46 ⟨(Nat.le_of_ble_eq_true rfl), (Nat.le_of_ble_eq_true rfl)⟩) hS hA hP hD [0] [1] rfl rfl (by decide) (by decide) (fun r u H locs hw hP hD hS => ?_)
    obtain ⟨rfl, rfl⟩ := hw
    have hP : va_P D vwCl [(m2, .inr (4, [.int 0, .ref td, .int 0])), (m0, .inr (20, [.int 0, .int 0, .ref m1, .ref m2, .ref m3, .int 0, .ref m4, .ref m5, .ref m6, .int 0, .ref m7, .ref m8, .ref m9, .int 0, .ref m10, .int 0, .ref m11, .ref m12, .ref m13, .int 0, .ref m14, .int 0, .int 0, .int 0, .ref m15, .ref m16]))] H := hP
    have hD : va_D A [(m2, .inr (4, [.int 0, .ref td, .int 0])), (m0, .inr (20, [.int 0, .int 0, .ref m1, .ref m2, .ref m3, .int 0, .ref m4, .ref m5, .ref m6, .int 0, .ref m7, .ref m8, .ref m9, .int 0, .ref m10, .int 0, .ref m11, .ref m12, .ref m13, .int 0, .ref m14, .int 0, .int 0, .int 0, .ref m15, .ref m16]))] := hD
    refine W.widen (k := 0) (n := 0) (Nat.le_of_ble_eq_true rfl) (Nat.le_of_ble_eq_true rfl) ?_
    refine lv_if_eq (tgt := 56) hx hb dX16_addDisjunction_49 (by decide) (fun _ => ?_) (fun c0 => absurd (by decide) c0)
    refine lv_aload_n hx hb dX16_addDisjunction_56 rfl (lv_at hl 0 rfl) ?_
    refine va_new (ci := 19) (fs := [.int 0, .int 0, .int 0, .int 0, .int 0, .int 0, .int 0, .null, .null]) (C := RX15) (T := TX15) (N := 9) hx hb hts iv_k_X16_addDisjunction_X15 tyX15 tyX15_ok hown (hts (.classLink RX16 98 RX15) (by decide +kernel)) (hts (.instantiable RX15 9) (by decide +kernel)) (hts (.initialized RX15) (by decide +kernel)) hK hP hD hS hA rfl (fun j hj => by rcases (show j = 0 ∨ j = 1 ∨ j = 2 ∨ j = 3 ∨ j = 4 ∨ j = 5 ∨ j = 6 ∨ j = 7 ∨ j = 8 by omega) with rfl | rfl | rfl | rfl | rfl | rfl | rfl | rfl | rfl <;> rfl) (Nat.le_of_ble_eq_true rfl) (Nat.le_of_ble_eq_true rfl) dX16_addDisjunction_57 (fun q122 H hP hD hS => ?_)
    have hP : va_P D vwCl [(m2, .inr (4, [.int 0, .ref td, .int 0])), (m0, .inr (20, [.int 0, .int 0, .ref m1, .ref m2, .ref m3, .int 0, .ref m4, .ref m5, .ref m6, .int 0, .ref m7, .ref m8, .ref m9, .int 0, .ref m10, .int 0, .ref m11, .ref m12, .ref m13, .int 0, .ref m14, .int 0, .int 0, .int 0, .ref m15, .ref m16])), (q122, .inr (19, [.int 0, .int 0, .int 0, .int 0, .int 0, .int 0, .int 0, .null, .null]))] H := hP
    have hD : va_D A [(m2, .inr (4, [.int 0, .ref td, .int 0])), (m0, .inr (20, [.int 0, .int 0, .ref m1, .ref m2, .ref m3, .int 0, .ref m4, .ref m5, .ref m6, .int 0, .ref m7, .ref m8, .ref m9, .int 0, .ref m10, .int 0, .ref m11, .ref m12, .ref m13, .int 0, .ref m14, .int 0, .int 0, .int 0, .ref m15, .ref m16])), (q122, .inr (19, [.int 0, .int 0, .int 0, .int 0, .int 0, .int 0, .int 0, .null, .null]))] := hD
    refine W.widen (k := 1) (n := 9) (Nat.le_of_ble_eq_true rfl) (Nat.le_of_ble_eq_true rfl) ?_
    refine lv_dup hx hb dX16_addDisjunction_60 rfl ?_
    refine lv_bipush (v := 100) hx hb dX16_addDisjunction_61 (by decide) ?_
    refine lv_iload_n hx hb dX16_addDisjunction_63 rfl (lv_at hl 1 rfl) ?_
    refine wq_v (wc := [(q122, .inr (19, [.int 0, .int 0, .int 0, .int 0, .int 0, .int 0, .int 0, .null, .null]))]) (wr := [(m2, .inr (4, [.int 0, .ref td, .int 0])), (m0, .inr (20, [.int 0, .int 0, .ref m1, .ref m2, .ref m3, .int 0, .ref m4, .ref m5, .ref m6, .int 0, .ref m7, .ref m8, .ref m9, .int 0, .ref m10, .int 0, .ref m11, .ref m12, .ref m13, .int 0, .ref m14, .int 0, .int 0, .int 0, .ref m15, .ref m16]))]) (va_runI (As := [.int 100, .int k1]) (rest := [.ref q122, .ref m0]) ⟨hx, hb, hml, hown, hts⟩ (k_X15_init_d l D ty td mi H.size q122 k1) (cwI 2 hts gv_k_X16_addDisjunction_6 rfl rfl rfl (hts (.initialized RX15) (by decide +kernel)) (hts (.methodLink RX16 100 yX15_init) (by decide +kernel)) (hts (.instanceMethod yX15_init) (by decide +kernel)) rfl (by decide +kernel) ⟨(Nat.le_of_ble_eq_true rfl), (Nat.le_of_ble_eq_true rfl)⟩) (wq_preS hP hD hK hE hS hA [2] rfl (by decide)) rfl rfl hl.1 rfl (lv_room (Nat.le_of_ble_eq_true rfl)) dX16_addDisjunction_64 ⟨(Nat.le_of_ble_eq_true rfl), (Nat.le_of_ble_eq_true rfl)⟩) hS hA hP hD [2] [0, 1] rfl rfl (by decide) (by decide) (fun u H locs hw hP hD hS => ?_)
    obtain ⟨q123, q124, rfl⟩ := hw
    have hP : va_P D vwCl [(m2, .inr (4, [.int 0, .ref td, .int 0])), (m0, .inr (20, [.int 0, .int 0, .ref m1, .ref m2, .ref m3, .int 0, .ref m4, .ref m5, .ref m6, .int 0, .ref m7, .ref m8, .ref m9, .int 0, .ref m10, .int 0, .ref m11, .ref m12, .ref m13, .int 0, .ref m14, .int 0, .int 0, .int 0, .ref m15, .ref m16])), (q122, .inr (19, [.int 100, .int k1, .int 0, .int 0, .int (-1), .int 0, .int 0, .ref q123, .ref q124])), (q123, .inr (4, [.int 0, .ref td, .int 0])), (q124, .inr (4, [.int 0, .ref td, .int 0]))] H := hP
    have hD : va_D A [(m2, .inr (4, [.int 0, .ref td, .int 0])), (m0, .inr (20, [.int 0, .int 0, .ref m1, .ref m2, .ref m3, .int 0, .ref m4, .ref m5, .ref m6, .int 0, .ref m7, .ref m8, .ref m9, .int 0, .ref m10, .int 0, .ref m11, .ref m12, .ref m13, .int 0, .ref m14, .int 0, .int 0, .int 0, .ref m15, .ref m16])), (q122, .inr (19, [.int 100, .int k1, .int 0, .int 0, .int (-1), .int 0, .int 0, .ref q123, .ref q124])), (q123, .inr (4, [.int 0, .ref td, .int 0])), (q124, .inr (4, [.int 0, .ref td, .int 0]))] := hD
    refine W.widen (k := 3) (n := 15) (Nat.le_of_ble_eq_true rfl) (Nat.le_of_ble_eq_true rfl) ?_
    refine wq_i (wc := [(m0, .inr (20, [.int 0, .int 0, .ref m1, .ref m2, .ref m3, .int 0, .ref m4, .ref m5, .ref m6, .int 0, .ref m7, .ref m8, .ref m9, .int 0, .ref m10, .int 0, .ref m11, .ref m12, .ref m13, .int 0, .ref m14, .int 0, .int 0, .int 0, .ref m15, .ref m16])), (m2, .inr (4, [.int 0, .ref td, .int 0])), (q122, .inr (19, [.int 100, .int k1, .int 0, .int 0, .int (-1), .int 0, .int 0, .ref q123, .ref q124]))]) (wr := [(q123, .inr (4, [.int 0, .ref td, .int 0])), (q124, .inr (4, [.int 0, .ref td, .int 0]))]) (va_runV (As := [.ref q122]) (rest := []) ⟨hx, hb, hml, hown, hts⟩ (k_X16_add l D ty td mi H.size m0 m1 m2 m3 m4 m5 m6 m7 m8 m9 m10 m11 m12 m13 m14 m15 m16 q122 q123 q124 q122 100 k1 0 0 (-1) 0 0 q123 q124) (cwV 1 hts gv_k_X16_addDisjunction_7 rfl rfl rfl (by decide +kernel) ⟨(Nat.le_of_ble_eq_true rfl), (Nat.le_of_ble_eq_true rfl)⟩) (wq_preV hP hD hK hE hS hA [1, 0, 2] rfl (by decide) 1 20 rfl rfl) rfl rfl hl.1 rfl (lv_room (Nat.le_of_ble_eq_true rfl)) dX16_addDisjunction_67 ⟨(Nat.le_of_ble_eq_true rfl), (Nat.le_of_ble_eq_true rfl)⟩) hS hA hP hD [1, 0, 2] [3, 4] rfl rfl (by decide) (by decide) (fun r u H locs hw hP hD hS => ?_)
    obtain ⟨rfl, rfl⟩ := hw
    have hP : va_P D vwCl [(q123, .inr (4, [.int 0, .ref td, .int 0])), (q124, .inr (4, [.int 0, .ref td, .int 0])), (m0, .inr (20, [.int 0, .int 0, .ref m1, .ref m2, .ref m3, .int 0, .ref m4, .ref m5, .ref m6, .int 0, .ref m7, .ref m8, .ref m9, .int 0, .ref m10, .int 0, .ref m11, .ref m12, .ref m13, .int 0, .ref m14, .int 0, .int 0, .int 0, .ref m15, .ref m16]))] H := hP
    have hD : va_D A [(q123, .inr (4, [.int 0, .ref td, .int 0])), (q124, .inr (4, [.int 0, .ref td, .int 0])), (m0, .inr (20, [.int 0, .int 0, .ref m1, .ref m2, .ref m3, .int 0, .ref m4, .ref m5, .ref m6, .int 0, .ref m7, .ref m8, .ref m9, .int 0, .ref m10, .int 0, .ref m11, .ref m12, .ref m13, .int 0, .ref m14, .int 0, .int 0, .int 0, .ref m15, .ref m16]))] := hD
    refine W.widen (k := 4) (n := 25) (Nat.le_of_ble_eq_true rfl) (Nat.le_of_ble_eq_true rfl) ?_
    have hP9 := hP.sub (ws' := [(m0, .inr (20, [.int 0, .int 0, .ref m1, .ref m2, .ref m3, .int 0, .ref m4, .ref m5, .ref m6, .int 0, .ref m7, .ref m8, .ref m9, .int 0, .ref m10, .int 0, .ref m11, .ref m12, .ref m13, .int 0, .ref m14, .int 0, .int 0, .int 0, .ref m15, .ref m16]))]) [2] rfl
    have hD9 := hD.sub (ws' := [(m0, .inr (20, [.int 0, .int 0, .ref m1, .ref m2, .ref m3, .int 0, .ref m4, .ref m5, .ref m6, .int 0, .ref m7, .ref m8, .ref m9, .int 0, .ref m10, .int 0, .ref m11, .ref m12, .ref m13, .int 0, .ref m14, .int 0, .int 0, .int 0, .ref m15, .ref m16]))]) [2] (by decide) rfl
    refine W.widen (k := 4) (n := 25) (Nat.le_of_ble_eq_true rfl) (Nat.le_of_ble_eq_true rfl) ?_
    exact W.iret (v := 0) hx hb hr (fun t ht hW => ⟨⟨0, [(m0, .inr (20, [.int 0, .int 0, .ref m1, .ref m2, .ref m3, .int 0, .ref m4, .ref m5, .ref m6, .int 0, .ref m7, .ref m8, .ref m9, .int 0, .ref m10, .int 0, .ref m11, .ref m12, .ref m13, .int 0, .ref m14, .int 0, .int 0, .int 0, .ref m15, .ref m16]))], rfl, (Or.inr (Or.inr ⟨rfl, c_4, c_5, rfl⟩)), wq_B.of ht hP9 hD9⟩, hS.F ht⟩) hS.2.2 dX16_addDisjunction_70
def vs_k_X16_addChoice : List Cond := .code yX16_addChoice cX16_addChoice 7 (some .int) :: ([.fieldLink RX16 65 "AnswerFoldModel" "thrown" "I", .methodLink RX16 72 yX16_in, .static yX16_in, .initialized RX16, .methodLink RX16 87 yX16_fails, .instanceMethod yX16_fails, .selects RX16 yX16_fails yX16_fails, .fieldLink RX16 16 "AnswerFoldModel" "rules" "Ljava/util/ArrayList;", .methodLink RX16 76 yJx4a65c_size_8abf5, .instanceMethod yJx4a65c_size_8abf5, .selects RJx4a65c yJx4a65c_size_8abf5 yJx4a65c_size_8abf5, .initialized RJx4a65c, .classLink RX16 98 RX15, .instantiable RX15 9, .initialized RX15, .methodLink RX16 100 yX15_init, .instanceMethod yX15_init, .fieldLink RX16 110 "AnswerFoldModel$Rule" "lower" "I", .fieldLink RX16 113 "AnswerFoldModel$Rule" "upper" "I", .fieldLink RX16 116 "AnswerFoldModel$Rule" "span" "I", .methodLink RX16 103 yX16_add, .instanceMethod yX16_add, .selects RX16 yX16_add yX16_add, .methodLink RX16 106 yX16_noPredicate, .instanceMethod yX16_noPredicate, .selects RX16 yX16_noPredicate yX16_noPredicate] ++ (u_ws RX16 TX16 26 ++ (vs_k_X16_in ++ (vs_k_X16_fails_1_1 ++ (vs_k_X16_fails_0_1 ++ (vs_k_size ++ (vs_k_X16_fails_0_2 ++ (u_ws RX15 TX15 9 ++ (vs_k_X15_init_c ++ (vs_k_X16_add ++ (vs_k_X16_noPredicate)))))))))))
theorem iv_k_X16_addChoice_X15 : ∀ w ∈ u_ws RX15 TX15 9, w ∈ vs_k_X16_addChoice := (fun _ h => List.mem_cons_of_mem _ (List.mem_append_right _ (List.mem_append_right _ (List.mem_append_right _ (List.mem_append_right _ (List.mem_append_right _ (List.mem_append_right _ (List.mem_append_right _ (List.mem_append_left _ h)))))))))
theorem iv_k_X16_addChoice_X16 : ∀ w ∈ u_ws RX16 TX16 26, w ∈ vs_k_X16_addChoice := (fun _ h => List.mem_cons_of_mem _ (List.mem_append_right _ (List.mem_append_left _ h)))
set_option maxRecDepth 20000 in
theorem gv_k_X16_addChoice_0 : GoodIn vs_k_X16_addChoice (va_wsS RX16 72 yX16_in vs_k_X16_in) := goodIn_app (goodIn_sub (by decide +kernel) (by decide +kernel)) (goodIn_sub (fun _ h => List.mem_cons_of_mem _ (List.mem_append_right _ (List.mem_append_right _ (List.mem_append_left _ h)))) (by decide +kernel))
set_option maxRecDepth 20000 in
theorem gv_k_X16_addChoice_1 : GoodIn vs_k_X16_addChoice (wsV RX16 87 RX16 yX16_fails vs_k_X16_fails_1_1) := goodIn_app (goodIn_sub (by decide +kernel) (by decide +kernel)) (goodIn_sub (fun _ h => List.mem_cons_of_mem _ (List.mem_append_right _ (List.mem_append_right _ (List.mem_append_right _ (List.mem_append_left _ h))))) (by decide +kernel))
set_option maxRecDepth 20000 in
theorem gv_k_X16_addChoice_2 : GoodIn vs_k_X16_addChoice (wsV RX16 87 RX16 yX16_fails vs_k_X16_fails_1_1) := goodIn_app (goodIn_sub (by decide +kernel) (by decide +kernel)) (goodIn_sub (fun _ h => List.mem_cons_of_mem _ (List.mem_append_right _ (List.mem_append_right _ (List.mem_append_right _ (List.mem_append_left _ h))))) (by decide +kernel))
set_option maxRecDepth 20000 in
theorem gv_k_X16_addChoice_3 : GoodIn vs_k_X16_addChoice (va_wsS RX16 72 yX16_in vs_k_X16_in) := goodIn_app (goodIn_sub (by decide +kernel) (by decide +kernel)) (goodIn_sub (fun _ h => List.mem_cons_of_mem _ (List.mem_append_right _ (List.mem_append_right _ (List.mem_append_left _ h)))) (by decide +kernel))
set_option maxRecDepth 20000 in
theorem gv_k_X16_addChoice_4 : GoodIn vs_k_X16_addChoice (wsV RX16 87 RX16 yX16_fails vs_k_X16_fails_1_1) := goodIn_app (goodIn_sub (by decide +kernel) (by decide +kernel)) (goodIn_sub (fun _ h => List.mem_cons_of_mem _ (List.mem_append_right _ (List.mem_append_right _ (List.mem_append_right _ (List.mem_append_left _ h))))) (by decide +kernel))
set_option maxRecDepth 20000 in
theorem gv_k_X16_addChoice_5 : GoodIn vs_k_X16_addChoice (wsV RX16 87 RX16 yX16_fails vs_k_X16_fails_1_1) := goodIn_app (goodIn_sub (by decide +kernel) (by decide +kernel)) (goodIn_sub (fun _ h => List.mem_cons_of_mem _ (List.mem_append_right _ (List.mem_append_right _ (List.mem_append_right _ (List.mem_append_left _ h))))) (by decide +kernel))
set_option maxRecDepth 20000 in
theorem gv_k_X16_addChoice_6 : GoodIn vs_k_X16_addChoice (va_wsS RX16 72 yX16_in vs_k_X16_in) := goodIn_app (goodIn_sub (by decide +kernel) (by decide +kernel)) (goodIn_sub (fun _ h => List.mem_cons_of_mem _ (List.mem_append_right _ (List.mem_append_right _ (List.mem_append_left _ h)))) (by decide +kernel))
set_option maxRecDepth 20000 in
theorem gv_k_X16_addChoice_7 : GoodIn vs_k_X16_addChoice (wsV RX16 87 RX16 yX16_fails vs_k_X16_fails_1_1) := goodIn_app (goodIn_sub (by decide +kernel) (by decide +kernel)) (goodIn_sub (fun _ h => List.mem_cons_of_mem _ (List.mem_append_right _ (List.mem_append_right _ (List.mem_append_right _ (List.mem_append_left _ h))))) (by decide +kernel))
set_option maxRecDepth 20000 in
theorem gv_k_X16_addChoice_8 : GoodIn vs_k_X16_addChoice (wsV RX16 87 RX16 yX16_fails vs_k_X16_fails_1_1) := goodIn_app (goodIn_sub (by decide +kernel) (by decide +kernel)) (goodIn_sub (fun _ h => List.mem_cons_of_mem _ (List.mem_append_right _ (List.mem_append_right _ (List.mem_append_right _ (List.mem_append_left _ h))))) (by decide +kernel))
set_option maxRecDepth 20000 in
theorem gv_k_X16_addChoice_9 : GoodIn vs_k_X16_addChoice (wsV RX16 87 RX16 yX16_fails vs_k_X16_fails_0_1) := goodIn_app (goodIn_sub (by decide +kernel) (by decide +kernel)) (goodIn_sub (fun _ h => List.mem_cons_of_mem _ (List.mem_append_right _ (List.mem_append_right _ (List.mem_append_right _ (List.mem_append_right _ (List.mem_append_left _ h)))))) (by decide +kernel))
set_option maxRecDepth 20000 in
theorem gv_k_X16_addChoice_10 : GoodIn vs_k_X16_addChoice (wsV RX16 76 RJx4a65c yJx4a65c_size_8abf5 vs_k_size) := goodIn_app (goodIn_sub (by decide +kernel) (by decide +kernel)) (goodIn_sub (fun _ h => List.mem_cons_of_mem _ (List.mem_append_right _ (List.mem_append_right _ (List.mem_append_right _ (List.mem_append_right _ (List.mem_append_right _ (List.mem_append_left _ h))))))) (by decide +kernel))
set_option maxRecDepth 20000 in
theorem gv_k_X16_addChoice_11 : GoodIn vs_k_X16_addChoice (wsV RX16 87 RX16 yX16_fails vs_k_X16_fails_0_2) := goodIn_app (goodIn_sub (by decide +kernel) (by decide +kernel)) (goodIn_sub (fun _ h => List.mem_cons_of_mem _ (List.mem_append_right _ (List.mem_append_right _ (List.mem_append_right _ (List.mem_append_right _ (List.mem_append_right _ (List.mem_append_right _ (List.mem_append_left _ h)))))))) (by decide +kernel))
set_option maxRecDepth 20000 in
theorem gv_k_X16_addChoice_12 : GoodIn vs_k_X16_addChoice (vs_k_X15_init_c) := (goodIn_sub (fun _ h => List.mem_cons_of_mem _ (List.mem_append_right _ (List.mem_append_right _ (List.mem_append_right _ (List.mem_append_right _ (List.mem_append_right _ (List.mem_append_right _ (List.mem_append_right _ (List.mem_append_right _ (List.mem_append_left _ h)))))))))) (by decide +kernel))
set_option maxRecDepth 20000 in
theorem gv_k_X16_addChoice_13 : GoodIn vs_k_X16_addChoice (wsV RX16 103 RX16 yX16_add vs_k_X16_add) := goodIn_app (goodIn_sub (by decide +kernel) (by decide +kernel)) (goodIn_sub (fun _ h => List.mem_cons_of_mem _ (List.mem_append_right _ (List.mem_append_right _ (List.mem_append_right _ (List.mem_append_right _ (List.mem_append_right _ (List.mem_append_right _ (List.mem_append_right _ (List.mem_append_right _ (List.mem_append_right _ (List.mem_append_left _ h))))))))))) (by decide +kernel))
set_option maxRecDepth 20000 in
theorem gv_k_X16_addChoice_14 : GoodIn vs_k_X16_addChoice (wsV RX16 106 RX16 yX16_noPredicate vs_k_X16_noPredicate) := goodIn_app (goodIn_sub (by decide +kernel) (by decide +kernel)) (goodIn_sub (fun _ h => List.mem_cons_of_mem _ (List.mem_append_right _ (List.mem_append_right _ (List.mem_append_right _ (List.mem_append_right _ (List.mem_append_right _ (List.mem_append_right _ (List.mem_append_right _ (List.mem_append_right _ (List.mem_append_right _ (List.mem_append_right _ (h)))))))))))) (by decide +kernel))
set_option maxRecDepth 20000 in
theorem gv_k_X16_addChoice_15 : GoodIn vs_k_X16_addChoice (wsV RX16 87 RX16 yX16_fails vs_k_X16_fails_1_1) := goodIn_app (goodIn_sub (by decide +kernel) (by decide +kernel)) (goodIn_sub (fun _ h => List.mem_cons_of_mem _ (List.mem_append_right _ (List.mem_append_right _ (List.mem_append_right _ (List.mem_append_left _ h))))) (by decide +kernel))
set_option maxHeartbeats 4000000 in
set_option maxRecDepth 100000 in
theorem k_X16_addChoice (l : Launch) (D : va_G) (ty : Nat → ClassId) (td mi sz : Nat) (m0 : Nat) (m1 : Nat) (m2 : Nat) (m3 : Nat) (m4 : Nat) (m5 : Nat) (m6 : Nat) (m7 : Nat) (m8 : Nat) (m9 : Nat) (m10 : Nat) (m11 : Nat) (m12 : Nat) (m13 : Nat) (m14 : Nat) (m15 : Nat) (m16 : Nat) (k1 : Int32) (k2 : Int32) (k3 : Int32) (k4 : Int32) : Met l yX16_addChoice vs_k_X16_addChoice { frames := 6, cells := 4, slots := 25, locals := 122 } (va_Pc [.ref m0, .int k1, .int k2, .int k3, .int k4] (wq_P D ty td mi [(m0, .inr (20, [.int 0, .int 0, .ref m1, .ref m2, .ref m3, .int 0, .ref m4, .ref m5, .ref m6, .int 0, .ref m7, .ref m8, .ref m9, .int 0, .ref m10, .int 0, .ref m11, .ref m12, .ref m13, .int 0, .ref m14, .int 0, .int 0, .int 0, .ref m15, .ref m16])), (m2, .inr (4, [.int 0, .ref td, .int 0]))] sz)) (va_Qi (fun (r : Int32) (u : va_W) => (r = 0 ∧ (k1 < 0) ∧ (u = [(m0, .inr (20, [.int 1, .int 0, .ref m1, .ref m2, .ref m3, .int 0, .ref m4, .ref m5, .ref m6, .int 0, .ref m7, .ref m8, .ref m9, .int 0, .ref m10, .int 0, .ref m11, .ref m12, .ref m13, .int 0, .ref m14, .int 0, .int 0, .int 0, .ref m15, .ref m16]))])) ∨ (r = 0 ∧ (¬ (k1 < 0)) ∧ (3 < k1) ∧ (u = [(m0, .inr (20, [.int 1, .int 0, .ref m1, .ref m2, .ref m3, .int 0, .ref m4, .ref m5, .ref m6, .int 0, .ref m7, .ref m8, .ref m9, .int 0, .ref m10, .int 0, .ref m11, .ref m12, .ref m13, .int 0, .ref m14, .int 0, .int 0, .int 0, .ref m15, .ref m16]))])) ∨ (r = 0 ∧ (¬ (k1 < 0)) ∧ (¬ (3 < k1)) ∧ (k2 < 0) ∧ (u = [(m0, .inr (20, [.int 1, .int 0, .ref m1, .ref m2, .ref m3, .int 0, .ref m4, .ref m5, .ref m6, .int 0, .ref m7, .ref m8, .ref m9, .int 0, .ref m10, .int 0, .ref m11, .ref m12, .ref m13, .int 0, .ref m14, .int 0, .int 0, .int 0, .ref m15, .ref m16]))])) ∨ (r = 0 ∧ (¬ (k1 < 0)) ∧ (¬ (3 < k1)) ∧ (¬ (k2 < 0)) ∧ (9 < k2) ∧ (u = [(m0, .inr (20, [.int 1, .int 0, .ref m1, .ref m2, .ref m3, .int 0, .ref m4, .ref m5, .ref m6, .int 0, .ref m7, .ref m8, .ref m9, .int 0, .ref m10, .int 0, .ref m11, .ref m12, .ref m13, .int 0, .ref m14, .int 0, .int 0, .int 0, .ref m15, .ref m16]))])) ∨ (r = 0 ∧ (¬ (k1 < 0)) ∧ (¬ (3 < k1)) ∧ (¬ (k2 < 0)) ∧ (¬ (9 < k2)) ∧ (k3 < k2) ∧ (u = [(m0, .inr (20, [.int 1, .int 0, .ref m1, .ref m2, .ref m3, .int 0, .ref m4, .ref m5, .ref m6, .int 0, .ref m7, .ref m8, .ref m9, .int 0, .ref m10, .int 0, .ref m11, .ref m12, .ref m13, .int 0, .ref m14, .int 0, .int 0, .int 0, .ref m15, .ref m16]))])) ∨ (r = 0 ∧ (¬ (k1 < 0)) ∧ (¬ (3 < k1)) ∧ (¬ (k2 < 0)) ∧ (¬ (9 < k2)) ∧ (¬ (k3 < k2)) ∧ (9 < k3) ∧ (u = [(m0, .inr (20, [.int 1, .int 0, .ref m1, .ref m2, .ref m3, .int 0, .ref m4, .ref m5, .ref m6, .int 0, .ref m7, .ref m8, .ref m9, .int 0, .ref m10, .int 0, .ref m11, .ref m12, .ref m13, .int 0, .ref m14, .int 0, .int 0, .int 0, .ref m15, .ref m16]))])) ∨ (r = 0 ∧ (¬ (k1 < 0)) ∧ (¬ (3 < k1)) ∧ (¬ (k2 < 0)) ∧ (¬ (9 < k2)) ∧ (¬ (k3 < k2)) ∧ (¬ (9 < k3)) ∧ (k4 = (-1)) ∧ (u = [(m0, .inr (20, [.int 0, .int 0, .ref m1, .ref m2, .ref m3, .int 0, .ref m4, .ref m5, .ref m6, .int 0, .ref m7, .ref m8, .ref m9, .int 0, .ref m10, .int 0, .ref m11, .ref m12, .ref m13, .int 0, .ref m14, .int 0, .int 0, .int 0, .ref m15, .ref m16]))])) ∨ (r = 0 ∧ (¬ (k1 < 0)) ∧ (¬ (3 < k1)) ∧ (¬ (k2 < 0)) ∧ (¬ (9 < k2)) ∧ (¬ (k3 < k2)) ∧ (¬ (9 < k3)) ∧ (¬ (k4 = (-1))) ∧ (u = [(m0, .inr (20, [.int 1, .int 0, .ref m1, .ref m2, .ref m3, .int 0, .ref m4, .ref m5, .ref m6, .int 0, .ref m7, .ref m8, .ref m9, .int 0, .ref m10, .int 0, .ref m11, .ref m12, .ref m13, .int 0, .ref m14, .int 0, .int 0, .int 0, .ref m15, .ref m16]))]))) (wq_B D (va_A [(m0, .inr (20, [.int 0, .int 0, .ref m1, .ref m2, .ref m3, .int 0, .ref m4, .ref m5, .ref m6, .int 0, .ref m7, .ref m8, .ref m9, .int 0, .ref m10, .int 0, .ref m11, .ref m12, .ref m13, .int 0, .ref m14, .int 0, .int 0, .int 0, .ref m15, .ref m16])), (m2, .inr (4, [.int 0, .ref td, .int 0]))] sz)) (va_A [(m0, .inr (20, [.int 0, .int 0, .ref m1, .ref m2, .ref m3, .int 0, .ref m4, .ref m5, .ref m6, .int 0, .ref m7, .ref m8, .ref m9, .int 0, .ref m10, .int 0, .ref m11, .ref m12, .ref m13, .int 0, .ref m14, .int 0, .int 0, .int 0, .ref m15, .ref m16])), (m2, .inr (4, [.int 0, .ref td, .int 0]))] sz)) 4 25 (va_A [(m0, .inr (20, [.int 0, .int 0, .ref m1, .ref m2, .ref m3, .int 0, .ref m4, .ref m5, .ref m6, .int 0, .ref m7, .ref m8, .ref m9, .int 0, .ref m10, .int 0, .ref m11, .ref m12, .ref m13, .int 0, .ref m14, .int 0, .int 0, .int 0, .ref m15, .ref m16])), (m2, .inr (4, [.int 0, .ref td, .int 0]))] sz) := by
  refine Met.ofW (cc := cX16_addChoice) (maxL := 7) (ret := (some .int)) (by decide) rfl ?_
  intro p e s m args below meth c s₁ B hml hv
  obtain ⟨rfl, hsz, hP, hK, hD0, hE⟩ := hv
  have hx := B.exec
  have hb := B.bytes
  have hr := B.returns
  have hts := atoms_spec (ws := vs_k_X16_addChoice) B.pre
  have hown : s.vm.findClass RX16 = some m.cls := findClass_of_methodNamed B.named
  have hlocks := B.notSynchronized
  subst hsz
  have hD := hD0.self (sz := s.heap.size)
  generalize hAe : va_A [(m0, .inr (20, [.int 0, .int 0, .ref m1, .ref m2, .ref m3, .int 0, .ref m4, .ref m5, .ref m6, .int 0, .ref m7, .ref m8, .ref m9, .int 0, .ref m10, .int 0, .ref m11, .ref m12, .ref m13, .int 0, .ref m14, .int 0, .int 0, .int 0, .ref m15, .ref m16])), (m2, .inr (4, [.int 0, .ref td, .int 0]))] s.heap.size = A at hD hE ⊢
  have hA : ∀ q : Nat, s.heap.size ≤ q → A q := fun q h => by rw [← hAe]; exact Or.inr h
  have hS : va_S A s.heap s.heap [] := va_S.rf
  have hP : va_P D vwCl [(m0, .inr (20, [.int 0, .int 0, .ref m1, .ref m2, .ref m3, .int 0, .ref m4, .ref m5, .ref m6, .int 0, .ref m7, .ref m8, .ref m9, .int 0, .ref m10, .int 0, .ref m11, .ref m12, .ref m13, .int 0, .ref m14, .int 0, .int 0, .int 0, .ref m15, .ref m16])), (m2, .inr (4, [.int 0, .ref td, .int 0]))] s.heap := hP
  have hl := lv_entry ([.ref m0, .int k1, .int k2, .int k3, .int k4]) (n := 7) (Nat.le_of_ble_eq_true rfl)
  rw [lg_entry_eq]
  generalize (lg_sl ([.ref m0, .int k1, .int k2, .int k3, .int k4]) ++ List.replicate (7 - (lg_sl ([.ref m0, .int k1, .int k2, .int k3, .int k4])).length) Slot.unset).toArray = ls at hl ⊢
  have hl : lv_has ls 7 [(0, .ref m0), (1, .int k1), (2, .int k2), (3, .int k3), (4, .int k4)] := hl
  refine lv_aload_n hx hb dX16_addChoice_0 rfl (lv_at hl 0 rfl) ?_
  refine lv_iconst (v := 0) hx hb dX16_addChoice_1 (by decide) ?_
  refine va_put (D := D) (ci := 20) (v := .int 0) (ty := tyX16 0) (C := RX16) (T := TX16) (N := 26) hx hb hts iv_k_X16_addChoice_X16 tyX16 tyX16_ok nmX16 hown hK hP hD hS 0 rfl rfl 0 (by decide) (hts (.fieldLink RX16 65 "AnswerFoldModel" "thrown" "I") (by decide +kernel)) (fun _ h9 => h9) rfl (by decide +kernel) rfl rfl (Nat.le_of_ble_eq_true rfl) dX16_addChoice_2 (fun H locs hP hD hS => ?_)
  have hP : va_P D vwCl [(m0, .inr (20, [.int 0, .int 0, .ref m1, .ref m2, .ref m3, .int 0, .ref m4, .ref m5, .ref m6, .int 0, .ref m7, .ref m8, .ref m9, .int 0, .ref m10, .int 0, .ref m11, .ref m12, .ref m13, .int 0, .ref m14, .int 0, .int 0, .int 0, .ref m15, .ref m16])), (m2, .inr (4, [.int 0, .ref td, .int 0]))] H := hP
  have hD : va_D A [(m0, .inr (20, [.int 0, .int 0, .ref m1, .ref m2, .ref m3, .int 0, .ref m4, .ref m5, .ref m6, .int 0, .ref m7, .ref m8, .ref m9, .int 0, .ref m10, .int 0, .ref m11, .ref m12, .ref m13, .int 0, .ref m14, .int 0, .int 0, .int 0, .ref m15, .ref m16])), (m2, .inr (4, [.int 0, .ref td, .int 0]))] := hD
  refine lv_iload_n hx hb dX16_addChoice_5 rfl (lv_at hl 1 rfl) ?_
  refine lv_iconst (v := 0) hx hb dX16_addChoice_6 (by decide) ?_
  refine lv_iconst (v := 3) hx hb dX16_addChoice_7 (by decide) ?_
  refine wq_i (wc := []) (wr := [(m0, .inr (20, [.int 0, .int 0, .ref m1, .ref m2, .ref m3, .int 0, .ref m4, .ref m5, .ref m6, .int 0, .ref m7, .ref m8, .ref m9, .int 0, .ref m10, .int 0, .ref m11, .ref m12, .ref m13, .int 0, .ref m14, .int 0, .int 0, .int 0, .ref m15, .ref m16])), (m2, .inr (4, [.int 0, .ref td, .int 0]))]) (va_runS (As := [.int k1, .int 0, .int 3]) (rest := []) ⟨hx, hb, hml, hown, hts⟩ (k_X16_in l D ty td mi H.size k1 0 3) (va_cwS 3 hts gv_k_X16_addChoice_0 rfl rfl rfl (by decide +kernel) ⟨(Nat.le_of_ble_eq_true rfl), (Nat.le_of_ble_eq_true rfl)⟩) (wq_preS hP hD hK hE hS hA [] rfl (by decide)) rfl rfl hl.1 rfl (lv_room (Nat.le_of_ble_eq_true rfl)) dX16_addChoice_8 ⟨(Nat.le_of_ble_eq_true rfl), (Nat.le_of_ble_eq_true rfl)⟩) hS hA hP hD [] [0, 1] rfl rfl (by decide) (by decide) (fun r u H locs hw hP hD hS => ?_)
  rcases hw with ⟨rfl, c_1, rfl⟩ | ⟨rfl, c_2, c_3, rfl⟩ | ⟨rfl, c_4, c_5, rfl⟩
  · have hP : va_P D vwCl [(m0, .inr (20, [.int 0, .int 0, .ref m1, .ref m2, .ref m3, .int 0, .ref m4, .ref m5, .ref m6, .int 0, .ref m7, .ref m8, .ref m9, .int 0, .ref m10, .int 0, .ref m11, .ref m12, .ref m13, .int 0, .ref m14, .int 0, .int 0, .int 0, .ref m15, .ref m16])), (m2, .inr (4, [.int 0, .ref td, .int 0]))] H := hP
    have hD : va_D A [(m0, .inr (20, [.int 0, .int 0, .ref m1, .ref m2, .ref m3, .int 0, .ref m4, .ref m5, .ref m6, .int 0, .ref m7, .ref m8, .ref m9, .int 0, .ref m10, .int 0, .ref m11, .ref m12, .ref m13, .int 0, .ref m14, .int 0, .int 0, .int 0, .ref m15, .ref m16])), (m2, .inr (4, [.int 0, .ref td, .int 0]))] := hD
    refine W.widen (k := 0) (n := 0) (Nat.le_of_ble_eq_true rfl) (Nat.le_of_ble_eq_true rfl) ?_
    refine lv_if_eq (tgt := 34) hx hb dX16_addChoice_11 (by decide) (fun _ => ?_) (fun c0 => absurd (by decide) c0)
    refine lv_iconst (v := 1) hx hb dX16_addChoice_34 (by decide) ?_
    refine lv_goto (tgt := 39) hx hb dX16_addChoice_35 (by decide) ?_
    refine lv_istore (lv' := [(5, .int 1), (0, .ref m0), (1, .int k1), (2, .int k2), (3, .int k3), (4, .int k4)]) hx hb dX16_addChoice_39 hl (by decide) rfl (fun ls hl => ?_)
    refine lv_iload hx hb dX16_addChoice_41 (lv_at hl 0 rfl) ?_
    refine lv_if_ne (tgt := 72) hx hb dX16_addChoice_43 (by decide) (fun _ => ?_) (fun c0 => absurd c0 (by decide))
    refine lv_iconst (v := 1) hx hb dX16_addChoice_72 (by decide) ?_
    refine lv_goto (tgt := 77) hx hb dX16_addChoice_73 (by decide) ?_
    refine lv_istore (lv' := [(5, .int 1), (0, .ref m0), (1, .int k1), (2, .int k2), (3, .int k3), (4, .int k4)]) hx hb dX16_addChoice_77 hl (by decide) rfl (fun ls hl => ?_)
    refine lv_aload_n hx hb dX16_addChoice_79 rfl (lv_at hl 1 rfl) ?_
    refine lv_iload hx hb dX16_addChoice_80 (lv_at hl 0 rfl) ?_
    refine lv_iconst (v := 1) hx hb dX16_addChoice_82 (by decide) ?_
    refine wq_i (wc := [(m0, .inr (20, [.int 0, .int 0, .ref m1, .ref m2, .ref m3, .int 0, .ref m4, .ref m5, .ref m6, .int 0, .ref m7, .ref m8, .ref m9, .int 0, .ref m10, .int 0, .ref m11, .ref m12, .ref m13, .int 0, .ref m14, .int 0, .int 0, .int 0, .ref m15, .ref m16]))]) (wr := [(m2, .inr (4, [.int 0, .ref td, .int 0]))]) (va_runV (As := [.int 1, .int 1]) (rest := []) ⟨hx, hb, hml, hown, hts⟩ (k_X16_fails_1_1 l D ty td mi H.size m0 m1 m2 m3 m4 m5 m6 m7 m8 m9 m10 m11 m12 m13 m14 m15 m16 0) (cwV 2 hts gv_k_X16_addChoice_1 rfl rfl rfl (by decide +kernel) ⟨(Nat.le_of_ble_eq_true rfl), (Nat.le_of_ble_eq_true rfl)⟩) (wq_preV hP hD hK hE hS hA [0] rfl (by decide) 0 20 rfl rfl) rfl rfl hl.1 rfl (lv_room (Nat.le_of_ble_eq_true rfl)) dX16_addChoice_83 ⟨(Nat.le_of_ble_eq_true rfl), (Nat.le_of_ble_eq_true rfl)⟩) hS hA hP hD [0] [1] rfl rfl (by decide) (by decide) (fun r u H locs hw hP hD hS => ?_)
    obtain ⟨rfl, rfl⟩ := hw
    have hP : va_P D vwCl [(m2, .inr (4, [.int 0, .ref td, .int 0])), (m0, .inr (20, [.int 1, .int 0, .ref m1, .ref m2, .ref m3, .int 0, .ref m4, .ref m5, .ref m6, .int 0, .ref m7, .ref m8, .ref m9, .int 0, .ref m10, .int 0, .ref m11, .ref m12, .ref m13, .int 0, .ref m14, .int 0, .int 0, .int 0, .ref m15, .ref m16]))] H := hP
    have hD : va_D A [(m2, .inr (4, [.int 0, .ref td, .int 0])), (m0, .inr (20, [.int 1, .int 0, .ref m1, .ref m2, .ref m3, .int 0, .ref m4, .ref m5, .ref m6, .int 0, .ref m7, .ref m8, .ref m9, .int 0, .ref m10, .int 0, .ref m11, .ref m12, .ref m13, .int 0, .ref m14, .int 0, .int 0, .int 0, .ref m15, .ref m16]))] := hD
    refine W.widen (k := 0) (n := 0) (Nat.le_of_ble_eq_true rfl) (Nat.le_of_ble_eq_true rfl) ?_
    refine lv_if_ne (tgt := 114) hx hb dX16_addChoice_86 (by decide) (fun _ => ?_) (fun c0 => absurd c0 (by decide))
    refine lv_iconst (v := 0) hx hb dX16_addChoice_114 (by decide) ?_
    have hP9 := hP.sub (ws' := [(m0, .inr (20, [.int 1, .int 0, .ref m1, .ref m2, .ref m3, .int 0, .ref m4, .ref m5, .ref m6, .int 0, .ref m7, .ref m8, .ref m9, .int 0, .ref m10, .int 0, .ref m11, .ref m12, .ref m13, .int 0, .ref m14, .int 0, .int 0, .int 0, .ref m15, .ref m16]))]) [1] rfl
    have hD9 := hD.sub (ws' := [(m0, .inr (20, [.int 1, .int 0, .ref m1, .ref m2, .ref m3, .int 0, .ref m4, .ref m5, .ref m6, .int 0, .ref m7, .ref m8, .ref m9, .int 0, .ref m10, .int 0, .ref m11, .ref m12, .ref m13, .int 0, .ref m14, .int 0, .int 0, .int 0, .ref m15, .ref m16]))]) [1] (by decide) rfl
    refine W.widen (k := 4) (n := 25) (Nat.le_of_ble_eq_true rfl) (Nat.le_of_ble_eq_true rfl) ?_
    exact W.iret (v := 0) hx hb hr (fun t ht hW => ⟨⟨0, [(m0, .inr (20, [.int 1, .int 0, .ref m1, .ref m2, .ref m3, .int 0, .ref m4, .ref m5, .ref m6, .int 0, .ref m7, .ref m8, .ref m9, .int 0, .ref m10, .int 0, .ref m11, .ref m12, .ref m13, .int 0, .ref m14, .int 0, .int 0, .int 0, .ref m15, .ref m16]))], rfl, (Or.inl ⟨rfl, c_1, rfl⟩), wq_B.of ht hP9 hD9⟩, hS.F ht⟩) hS.2.2 dX16_addChoice_115
  · have hP : va_P D vwCl [(m0, .inr (20, [.int 0, .int 0, .ref m1, .ref m2, .ref m3, .int 0, .ref m4, .ref m5, .ref m6, .int 0, .ref m7, .ref m8, .ref m9, .int 0, .ref m10, .int 0, .ref m11, .ref m12, .ref m13, .int 0, .ref m14, .int 0, .int 0, .int 0, .ref m15, .ref m16])), (m2, .inr (4, [.int 0, .ref td, .int 0]))] H := hP
    have hD : va_D A [(m0, .inr (20, [.int 0, .int 0, .ref m1, .ref m2, .ref m3, .int 0, .ref m4, .ref m5, .ref m6, .int 0, .ref m7, .ref m8, .ref m9, .int 0, .ref m10, .int 0, .ref m11, .ref m12, .ref m13, .int 0, .ref m14, .int 0, .int 0, .int 0, .ref m15, .ref m16])), (m2, .inr (4, [.int 0, .ref td, .int 0]))] := hD
    refine W.widen (k := 0) (n := 0) (Nat.le_of_ble_eq_true rfl) (Nat.le_of_ble_eq_true rfl) ?_
    refine lv_if_eq (tgt := 34) hx hb dX16_addChoice_11 (by decide) (fun _ => ?_) (fun c0 => absurd (by decide) c0)
    refine lv_iconst (v := 1) hx hb dX16_addChoice_34 (by decide) ?_
    refine lv_goto (tgt := 39) hx hb dX16_addChoice_35 (by decide) ?_
    refine lv_istore (lv' := [(5, .int 1), (0, .ref m0), (1, .int k1), (2, .int k2), (3, .int k3), (4, .int k4)]) hx hb dX16_addChoice_39 hl (by decide) rfl (fun ls hl => ?_)
    refine lv_iload hx hb dX16_addChoice_41 (lv_at hl 0 rfl) ?_
    refine lv_if_ne (tgt := 72) hx hb dX16_addChoice_43 (by decide) (fun _ => ?_) (fun c0 => absurd c0 (by decide))
    refine lv_iconst (v := 1) hx hb dX16_addChoice_72 (by decide) ?_
    refine lv_goto (tgt := 77) hx hb dX16_addChoice_73 (by decide) ?_
    refine lv_istore (lv' := [(5, .int 1), (0, .ref m0), (1, .int k1), (2, .int k2), (3, .int k3), (4, .int k4)]) hx hb dX16_addChoice_77 hl (by decide) rfl (fun ls hl => ?_)
    refine lv_aload_n hx hb dX16_addChoice_79 rfl (lv_at hl 1 rfl) ?_
    refine lv_iload hx hb dX16_addChoice_80 (lv_at hl 0 rfl) ?_
    refine lv_iconst (v := 1) hx hb dX16_addChoice_82 (by decide) ?_
    refine wq_i (wc := [(m0, .inr (20, [.int 0, .int 0, .ref m1, .ref m2, .ref m3, .int 0, .ref m4, .ref m5, .ref m6, .int 0, .ref m7, .ref m8, .ref m9, .int 0, .ref m10, .int 0, .ref m11, .ref m12, .ref m13, .int 0, .ref m14, .int 0, .int 0, .int 0, .ref m15, .ref m16]))]) (wr := [(m2, .inr (4, [.int 0, .ref td, .int 0]))]) (va_runV (As := [.int 1, .int 1]) (rest := []) ⟨hx, hb, hml, hown, hts⟩ (k_X16_fails_1_1 l D ty td mi H.size m0 m1 m2 m3 m4 m5 m6 m7 m8 m9 m10 m11 m12 m13 m14 m15 m16 0) (cwV 2 hts gv_k_X16_addChoice_2 rfl rfl rfl (by decide +kernel) ⟨(Nat.le_of_ble_eq_true rfl), (Nat.le_of_ble_eq_true rfl)⟩) (wq_preV hP hD hK hE hS hA [0] rfl (by decide) 0 20 rfl rfl) rfl rfl hl.1 rfl (lv_room (Nat.le_of_ble_eq_true rfl)) dX16_addChoice_83 ⟨(Nat.le_of_ble_eq_true rfl), (Nat.le_of_ble_eq_true rfl)⟩) hS hA hP hD [0] [1] rfl rfl (by decide) (by decide) (fun r u H locs hw hP hD hS => ?_)
    obtain ⟨rfl, rfl⟩ := hw
    have hP : va_P D vwCl [(m2, .inr (4, [.int 0, .ref td, .int 0])), (m0, .inr (20, [.int 1, .int 0, .ref m1, .ref m2, .ref m3, .int 0, .ref m4, .ref m5, .ref m6, .int 0, .ref m7, .ref m8, .ref m9, .int 0, .ref m10, .int 0, .ref m11, .ref m12, .ref m13, .int 0, .ref m14, .int 0, .int 0, .int 0, .ref m15, .ref m16]))] H := hP
    have hD : va_D A [(m2, .inr (4, [.int 0, .ref td, .int 0])), (m0, .inr (20, [.int 1, .int 0, .ref m1, .ref m2, .ref m3, .int 0, .ref m4, .ref m5, .ref m6, .int 0, .ref m7, .ref m8, .ref m9, .int 0, .ref m10, .int 0, .ref m11, .ref m12, .ref m13, .int 0, .ref m14, .int 0, .int 0, .int 0, .ref m15, .ref m16]))] := hD
    refine W.widen (k := 0) (n := 0) (Nat.le_of_ble_eq_true rfl) (Nat.le_of_ble_eq_true rfl) ?_
    refine lv_if_ne (tgt := 114) hx hb dX16_addChoice_86 (by decide) (fun _ => ?_) (fun c0 => absurd c0 (by decide))
    refine lv_iconst (v := 0) hx hb dX16_addChoice_114 (by decide) ?_
    have hP9 := hP.sub (ws' := [(m0, .inr (20, [.int 1, .int 0, .ref m1, .ref m2, .ref m3, .int 0, .ref m4, .ref m5, .ref m6, .int 0, .ref m7, .ref m8, .ref m9, .int 0, .ref m10, .int 0, .ref m11, .ref m12, .ref m13, .int 0, .ref m14, .int 0, .int 0, .int 0, .ref m15, .ref m16]))]) [1] rfl
    have hD9 := hD.sub (ws' := [(m0, .inr (20, [.int 1, .int 0, .ref m1, .ref m2, .ref m3, .int 0, .ref m4, .ref m5, .ref m6, .int 0, .ref m7, .ref m8, .ref m9, .int 0, .ref m10, .int 0, .ref m11, .ref m12, .ref m13, .int 0, .ref m14, .int 0, .int 0, .int 0, .ref m15, .ref m16]))]) [1] (by decide) rfl
    refine W.widen (k := 4) (n := 25) (Nat.le_of_ble_eq_true rfl) (Nat.le_of_ble_eq_true rfl) ?_
    exact W.iret (v := 0) hx hb hr (fun t ht hW => ⟨⟨0, [(m0, .inr (20, [.int 1, .int 0, .ref m1, .ref m2, .ref m3, .int 0, .ref m4, .ref m5, .ref m6, .int 0, .ref m7, .ref m8, .ref m9, .int 0, .ref m10, .int 0, .ref m11, .ref m12, .ref m13, .int 0, .ref m14, .int 0, .int 0, .int 0, .ref m15, .ref m16]))], rfl, (Or.inr (Or.inl ⟨rfl, c_2, c_3, rfl⟩)), wq_B.of ht hP9 hD9⟩, hS.F ht⟩) hS.2.2 dX16_addChoice_115
  · have hP : va_P D vwCl [(m0, .inr (20, [.int 0, .int 0, .ref m1, .ref m2, .ref m3, .int 0, .ref m4, .ref m5, .ref m6, .int 0, .ref m7, .ref m8, .ref m9, .int 0, .ref m10, .int 0, .ref m11, .ref m12, .ref m13, .int 0, .ref m14, .int 0, .int 0, .int 0, .ref m15, .ref m16])), (m2, .inr (4, [.int 0, .ref td, .int 0]))] H := hP
    have hD : va_D A [(m0, .inr (20, [.int 0, .int 0, .ref m1, .ref m2, .ref m3, .int 0, .ref m4, .ref m5, .ref m6, .int 0, .ref m7, .ref m8, .ref m9, .int 0, .ref m10, .int 0, .ref m11, .ref m12, .ref m13, .int 0, .ref m14, .int 0, .int 0, .int 0, .ref m15, .ref m16])), (m2, .inr (4, [.int 0, .ref td, .int 0]))] := hD
    refine W.widen (k := 0) (n := 0) (Nat.le_of_ble_eq_true rfl) (Nat.le_of_ble_eq_true rfl) ?_
    refine lv_if_eq (tgt := 34) hx hb dX16_addChoice_11 (by decide) (fun c0 => absurd c0 (by decide)) (fun _ => ?_)
    refine lv_iload_n hx hb dX16_addChoice_14 rfl (lv_at hl 2 rfl) ?_
    refine lv_iconst (v := 0) hx hb dX16_addChoice_15 (by decide) ?_
    refine lv_bipush (v := 9) hx hb dX16_addChoice_16 (by decide) ?_
    refine wq_i (wc := []) (wr := [(m0, .inr (20, [.int 0, .int 0, .ref m1, .ref m2, .ref m3, .int 0, .ref m4, .ref m5, .ref m6, .int 0, .ref m7, .ref m8, .ref m9, .int 0, .ref m10, .int 0, .ref m11, .ref m12, .ref m13, .int 0, .ref m14, .int 0, .int 0, .int 0, .ref m15, .ref m16])), (m2, .inr (4, [.int 0, .ref td, .int 0]))]) (va_runS (As := [.int k2, .int 0, .int 9]) (rest := []) ⟨hx, hb, hml, hown, hts⟩ (k_X16_in l D ty td mi H.size k2 0 9) (va_cwS 3 hts gv_k_X16_addChoice_3 rfl rfl rfl (by decide +kernel) ⟨(Nat.le_of_ble_eq_true rfl), (Nat.le_of_ble_eq_true rfl)⟩) (wq_preS hP hD hK hE hS hA [] rfl (by decide)) rfl rfl hl.1 rfl (lv_room (Nat.le_of_ble_eq_true rfl)) dX16_addChoice_18 ⟨(Nat.le_of_ble_eq_true rfl), (Nat.le_of_ble_eq_true rfl)⟩) hS hA hP hD [] [0, 1] rfl rfl (by decide) (by decide) (fun r u H locs hw hP hD hS => ?_)
    rcases hw with ⟨rfl, c_6, rfl⟩ | ⟨rfl, c_7, c_8, rfl⟩ | ⟨rfl, c_9, c_10, rfl⟩
    · have hP : va_P D vwCl [(m0, .inr (20, [.int 0, .int 0, .ref m1, .ref m2, .ref m3, .int 0, .ref m4, .ref m5, .ref m6, .int 0, .ref m7, .ref m8, .ref m9, .int 0, .ref m10, .int 0, .ref m11, .ref m12, .ref m13, .int 0, .ref m14, .int 0, .int 0, .int 0, .ref m15, .ref m16])), (m2, .inr (4, [.int 0, .ref td, .int 0]))] H := hP
      have hD : va_D A [(m0, .inr (20, [.int 0, .int 0, .ref m1, .ref m2, .ref m3, .int 0, .ref m4, .ref m5, .ref m6, .int 0, .ref m7, .ref m8, .ref m9, .int 0, .ref m10, .int 0, .ref m11, .ref m12, .ref m13, .int 0, .ref m14, .int 0, .int 0, .int 0, .ref m15, .ref m16])), (m2, .inr (4, [.int 0, .ref td, .int 0]))] := hD
      refine W.widen (k := 0) (n := 0) (Nat.le_of_ble_eq_true rfl) (Nat.le_of_ble_eq_true rfl) ?_
      refine lv_if_eq (tgt := 34) hx hb dX16_addChoice_21 (by decide) (fun _ => ?_) (fun c0 => absurd (by decide) c0)
      refine lv_iconst (v := 1) hx hb dX16_addChoice_34 (by decide) ?_
      refine lv_goto (tgt := 39) hx hb dX16_addChoice_35 (by decide) ?_
      refine lv_istore (lv' := [(5, .int 1), (0, .ref m0), (1, .int k1), (2, .int k2), (3, .int k3), (4, .int k4)]) hx hb dX16_addChoice_39 hl (by decide) rfl (fun ls hl => ?_)
      refine lv_iload hx hb dX16_addChoice_41 (lv_at hl 0 rfl) ?_
      refine lv_if_ne (tgt := 72) hx hb dX16_addChoice_43 (by decide) (fun _ => ?_) (fun c0 => absurd c0 (by decide))
      refine lv_iconst (v := 1) hx hb dX16_addChoice_72 (by decide) ?_
      refine lv_goto (tgt := 77) hx hb dX16_addChoice_73 (by decide) ?_
      refine lv_istore (lv' := [(5, .int 1), (0, .ref m0), (1, .int k1), (2, .int k2), (3, .int k3), (4, .int k4)]) hx hb dX16_addChoice_77 hl (by decide) rfl (fun ls hl => ?_)
      refine lv_aload_n hx hb dX16_addChoice_79 rfl (lv_at hl 1 rfl) ?_
      refine lv_iload hx hb dX16_addChoice_80 (lv_at hl 0 rfl) ?_
      refine lv_iconst (v := 1) hx hb dX16_addChoice_82 (by decide) ?_
      refine wq_i (wc := [(m0, .inr (20, [.int 0, .int 0, .ref m1, .ref m2, .ref m3, .int 0, .ref m4, .ref m5, .ref m6, .int 0, .ref m7, .ref m8, .ref m9, .int 0, .ref m10, .int 0, .ref m11, .ref m12, .ref m13, .int 0, .ref m14, .int 0, .int 0, .int 0, .ref m15, .ref m16]))]) (wr := [(m2, .inr (4, [.int 0, .ref td, .int 0]))]) (va_runV (As := [.int 1, .int 1]) (rest := []) ⟨hx, hb, hml, hown, hts⟩ (k_X16_fails_1_1 l D ty td mi H.size m0 m1 m2 m3 m4 m5 m6 m7 m8 m9 m10 m11 m12 m13 m14 m15 m16 0) (cwV 2 hts gv_k_X16_addChoice_4 rfl rfl rfl (by decide +kernel) ⟨(Nat.le_of_ble_eq_true rfl), (Nat.le_of_ble_eq_true rfl)⟩) (wq_preV hP hD hK hE hS hA [0] rfl (by decide) 0 20 rfl rfl) rfl rfl hl.1 rfl (lv_room (Nat.le_of_ble_eq_true rfl)) dX16_addChoice_83 ⟨(Nat.le_of_ble_eq_true rfl), (Nat.le_of_ble_eq_true rfl)⟩) hS hA hP hD [0] [1] rfl rfl (by decide) (by decide) (fun r u H locs hw hP hD hS => ?_)
      obtain ⟨rfl, rfl⟩ := hw
      have hP : va_P D vwCl [(m2, .inr (4, [.int 0, .ref td, .int 0])), (m0, .inr (20, [.int 1, .int 0, .ref m1, .ref m2, .ref m3, .int 0, .ref m4, .ref m5, .ref m6, .int 0, .ref m7, .ref m8, .ref m9, .int 0, .ref m10, .int 0, .ref m11, .ref m12, .ref m13, .int 0, .ref m14, .int 0, .int 0, .int 0, .ref m15, .ref m16]))] H := hP
      have hD : va_D A [(m2, .inr (4, [.int 0, .ref td, .int 0])), (m0, .inr (20, [.int 1, .int 0, .ref m1, .ref m2, .ref m3, .int 0, .ref m4, .ref m5, .ref m6, .int 0, .ref m7, .ref m8, .ref m9, .int 0, .ref m10, .int 0, .ref m11, .ref m12, .ref m13, .int 0, .ref m14, .int 0, .int 0, .int 0, .ref m15, .ref m16]))] := hD
      refine W.widen (k := 0) (n := 0) (Nat.le_of_ble_eq_true rfl) (Nat.le_of_ble_eq_true rfl) ?_
      refine lv_if_ne (tgt := 114) hx hb dX16_addChoice_86 (by decide) (fun _ => ?_) (fun c0 => absurd c0 (by decide))
      refine lv_iconst (v := 0) hx hb dX16_addChoice_114 (by decide) ?_
      have hP9 := hP.sub (ws' := [(m0, .inr (20, [.int 1, .int 0, .ref m1, .ref m2, .ref m3, .int 0, .ref m4, .ref m5, .ref m6, .int 0, .ref m7, .ref m8, .ref m9, .int 0, .ref m10, .int 0, .ref m11, .ref m12, .ref m13, .int 0, .ref m14, .int 0, .int 0, .int 0, .ref m15, .ref m16]))]) [1] rfl
      have hD9 := hD.sub (ws' := [(m0, .inr (20, [.int 1, .int 0, .ref m1, .ref m2, .ref m3, .int 0, .ref m4, .ref m5, .ref m6, .int 0, .ref m7, .ref m8, .ref m9, .int 0, .ref m10, .int 0, .ref m11, .ref m12, .ref m13, .int 0, .ref m14, .int 0, .int 0, .int 0, .ref m15, .ref m16]))]) [1] (by decide) rfl
      refine W.widen (k := 4) (n := 25) (Nat.le_of_ble_eq_true rfl) (Nat.le_of_ble_eq_true rfl) ?_
      exact W.iret (v := 0) hx hb hr (fun t ht hW => ⟨⟨0, [(m0, .inr (20, [.int 1, .int 0, .ref m1, .ref m2, .ref m3, .int 0, .ref m4, .ref m5, .ref m6, .int 0, .ref m7, .ref m8, .ref m9, .int 0, .ref m10, .int 0, .ref m11, .ref m12, .ref m13, .int 0, .ref m14, .int 0, .int 0, .int 0, .ref m15, .ref m16]))], rfl, (Or.inr (Or.inr (Or.inl ⟨rfl, c_4, c_5, c_6, rfl⟩))), wq_B.of ht hP9 hD9⟩, hS.F ht⟩) hS.2.2 dX16_addChoice_115
    · have hP : va_P D vwCl [(m0, .inr (20, [.int 0, .int 0, .ref m1, .ref m2, .ref m3, .int 0, .ref m4, .ref m5, .ref m6, .int 0, .ref m7, .ref m8, .ref m9, .int 0, .ref m10, .int 0, .ref m11, .ref m12, .ref m13, .int 0, .ref m14, .int 0, .int 0, .int 0, .ref m15, .ref m16])), (m2, .inr (4, [.int 0, .ref td, .int 0]))] H := hP
      have hD : va_D A [(m0, .inr (20, [.int 0, .int 0, .ref m1, .ref m2, .ref m3, .int 0, .ref m4, .ref m5, .ref m6, .int 0, .ref m7, .ref m8, .ref m9, .int 0, .ref m10, .int 0, .ref m11, .ref m12, .ref m13, .int 0, .ref m14, .int 0, .int 0, .int 0, .ref m15, .ref m16])), (m2, .inr (4, [.int 0, .ref td, .int 0]))] := hD
      refine W.widen (k := 0) (n := 0) (Nat.le_of_ble_eq_true rfl) (Nat.le_of_ble_eq_true rfl) ?_
      refine lv_if_eq (tgt := 34) hx hb dX16_addChoice_21 (by decide) (fun _ => ?_) (fun c0 => absurd (by decide) c0)
      refine lv_iconst (v := 1) hx hb dX16_addChoice_34 (by decide) ?_
      refine lv_goto (tgt := 39) hx hb dX16_addChoice_35 (by decide) ?_
      refine lv_istore (lv' := [(5, .int 1), (0, .ref m0), (1, .int k1), (2, .int k2), (3, .int k3), (4, .int k4)]) hx hb dX16_addChoice_39 hl (by decide) rfl (fun ls hl => ?_)
      refine lv_iload hx hb dX16_addChoice_41 (lv_at hl 0 rfl) ?_
      refine lv_if_ne (tgt := 72) hx hb dX16_addChoice_43 (by decide) (fun _ => ?_) (fun c0 => absurd c0 (by decide))
      refine lv_iconst (v := 1) hx hb dX16_addChoice_72 (by decide) ?_
      refine lv_goto (tgt := 77) hx hb dX16_addChoice_73 (by decide) ?_
      refine lv_istore (lv' := [(5, .int 1), (0, .ref m0), (1, .int k1), (2, .int k2), (3, .int k3), (4, .int k4)]) hx hb dX16_addChoice_77 hl (by decide) rfl (fun ls hl => ?_)
      refine lv_aload_n hx hb dX16_addChoice_79 rfl (lv_at hl 1 rfl) ?_
      refine lv_iload hx hb dX16_addChoice_80 (lv_at hl 0 rfl) ?_
      refine lv_iconst (v := 1) hx hb dX16_addChoice_82 (by decide) ?_
      refine wq_i (wc := [(m0, .inr (20, [.int 0, .int 0, .ref m1, .ref m2, .ref m3, .int 0, .ref m4, .ref m5, .ref m6, .int 0, .ref m7, .ref m8, .ref m9, .int 0, .ref m10, .int 0, .ref m11, .ref m12, .ref m13, .int 0, .ref m14, .int 0, .int 0, .int 0, .ref m15, .ref m16]))]) (wr := [(m2, .inr (4, [.int 0, .ref td, .int 0]))]) (va_runV (As := [.int 1, .int 1]) (rest := []) ⟨hx, hb, hml, hown, hts⟩ (k_X16_fails_1_1 l D ty td mi H.size m0 m1 m2 m3 m4 m5 m6 m7 m8 m9 m10 m11 m12 m13 m14 m15 m16 0) (cwV 2 hts gv_k_X16_addChoice_5 rfl rfl rfl (by decide +kernel) ⟨(Nat.le_of_ble_eq_true rfl), (Nat.le_of_ble_eq_true rfl)⟩) (wq_preV hP hD hK hE hS hA [0] rfl (by decide) 0 20 rfl rfl) rfl rfl hl.1 rfl (lv_room (Nat.le_of_ble_eq_true rfl)) dX16_addChoice_83 ⟨(Nat.le_of_ble_eq_true rfl), (Nat.le_of_ble_eq_true rfl)⟩) hS hA hP hD [0] [1] rfl rfl (by decide) (by decide) (fun r u H locs hw hP hD hS => ?_)
      obtain ⟨rfl, rfl⟩ := hw
      have hP : va_P D vwCl [(m2, .inr (4, [.int 0, .ref td, .int 0])), (m0, .inr (20, [.int 1, .int 0, .ref m1, .ref m2, .ref m3, .int 0, .ref m4, .ref m5, .ref m6, .int 0, .ref m7, .ref m8, .ref m9, .int 0, .ref m10, .int 0, .ref m11, .ref m12, .ref m13, .int 0, .ref m14, .int 0, .int 0, .int 0, .ref m15, .ref m16]))] H := hP
      have hD : va_D A [(m2, .inr (4, [.int 0, .ref td, .int 0])), (m0, .inr (20, [.int 1, .int 0, .ref m1, .ref m2, .ref m3, .int 0, .ref m4, .ref m5, .ref m6, .int 0, .ref m7, .ref m8, .ref m9, .int 0, .ref m10, .int 0, .ref m11, .ref m12, .ref m13, .int 0, .ref m14, .int 0, .int 0, .int 0, .ref m15, .ref m16]))] := hD
      refine W.widen (k := 0) (n := 0) (Nat.le_of_ble_eq_true rfl) (Nat.le_of_ble_eq_true rfl) ?_
      refine lv_if_ne (tgt := 114) hx hb dX16_addChoice_86 (by decide) (fun _ => ?_) (fun c0 => absurd c0 (by decide))
      refine lv_iconst (v := 0) hx hb dX16_addChoice_114 (by decide) ?_
      have hP9 := hP.sub (ws' := [(m0, .inr (20, [.int 1, .int 0, .ref m1, .ref m2, .ref m3, .int 0, .ref m4, .ref m5, .ref m6, .int 0, .ref m7, .ref m8, .ref m9, .int 0, .ref m10, .int 0, .ref m11, .ref m12, .ref m13, .int 0, .ref m14, .int 0, .int 0, .int 0, .ref m15, .ref m16]))]) [1] rfl
      have hD9 := hD.sub (ws' := [(m0, .inr (20, [.int 1, .int 0, .ref m1, .ref m2, .ref m3, .int 0, .ref m4, .ref m5, .ref m6, .int 0, .ref m7, .ref m8, .ref m9, .int 0, .ref m10, .int 0, .ref m11, .ref m12, .ref m13, .int 0, .ref m14, .int 0, .int 0, .int 0, .ref m15, .ref m16]))]) [1] (by decide) rfl
      refine W.widen (k := 4) (n := 25) (Nat.le_of_ble_eq_true rfl) (Nat.le_of_ble_eq_true rfl) ?_
      exact W.iret (v := 0) hx hb hr (fun t ht hW => ⟨⟨0, [(m0, .inr (20, [.int 1, .int 0, .ref m1, .ref m2, .ref m3, .int 0, .ref m4, .ref m5, .ref m6, .int 0, .ref m7, .ref m8, .ref m9, .int 0, .ref m10, .int 0, .ref m11, .ref m12, .ref m13, .int 0, .ref m14, .int 0, .int 0, .int 0, .ref m15, .ref m16]))], rfl, (Or.inr (Or.inr (Or.inr (Or.inl ⟨rfl, c_4, c_5, c_7, c_8, rfl⟩)))), wq_B.of ht hP9 hD9⟩, hS.F ht⟩) hS.2.2 dX16_addChoice_115
    · have hP : va_P D vwCl [(m0, .inr (20, [.int 0, .int 0, .ref m1, .ref m2, .ref m3, .int 0, .ref m4, .ref m5, .ref m6, .int 0, .ref m7, .ref m8, .ref m9, .int 0, .ref m10, .int 0, .ref m11, .ref m12, .ref m13, .int 0, .ref m14, .int 0, .int 0, .int 0, .ref m15, .ref m16])), (m2, .inr (4, [.int 0, .ref td, .int 0]))] H := hP
      have hD : va_D A [(m0, .inr (20, [.int 0, .int 0, .ref m1, .ref m2, .ref m3, .int 0, .ref m4, .ref m5, .ref m6, .int 0, .ref m7, .ref m8, .ref m9, .int 0, .ref m10, .int 0, .ref m11, .ref m12, .ref m13, .int 0, .ref m14, .int 0, .int 0, .int 0, .ref m15, .ref m16])), (m2, .inr (4, [.int 0, .ref td, .int 0]))] := hD
      refine W.widen (k := 0) (n := 0) (Nat.le_of_ble_eq_true rfl) (Nat.le_of_ble_eq_true rfl) ?_
      refine lv_if_eq (tgt := 34) hx hb dX16_addChoice_21 (by decide) (fun c0 => absurd c0 (by decide)) (fun _ => ?_)
      refine lv_iload_n hx hb dX16_addChoice_24 rfl (lv_at hl 3 rfl) ?_
      refine lv_iload_n hx hb dX16_addChoice_25 rfl (lv_at hl 2 rfl) ?_
      refine lv_bipush (v := 9) hx hb dX16_addChoice_26 (by decide) ?_
      refine wq_i (wc := []) (wr := [(m0, .inr (20, [.int 0, .int 0, .ref m1, .ref m2, .ref m3, .int 0, .ref m4, .ref m5, .ref m6, .int 0, .ref m7, .ref m8, .ref m9, .int 0, .ref m10, .int 0, .ref m11, .ref m12, .ref m13, .int 0, .ref m14, .int 0, .int 0, .int 0, .ref m15, .ref m16])), (m2, .inr (4, [.int 0, .ref td, .int 0]))]) (va_runS (As := [.int k3, .int k2, .int 9]) (rest := []) ⟨hx, hb, hml, hown, hts⟩ (k_X16_in l D ty td mi H.size k3 k2 9) (va_cwS 3 hts gv_k_X16_addChoice_6 rfl rfl rfl (by decide +kernel) ⟨(Nat.le_of_ble_eq_true rfl), (Nat.le_of_ble_eq_true rfl)⟩) (wq_preS hP hD hK hE hS hA [] rfl (by decide)) rfl rfl hl.1 rfl (lv_room (Nat.le_of_ble_eq_true rfl)) dX16_addChoice_28 ⟨(Nat.le_of_ble_eq_true rfl), (Nat.le_of_ble_eq_true rfl)⟩) hS hA hP hD [] [0, 1] rfl rfl (by decide) (by decide) (fun r u H locs hw hP hD hS => ?_)
      rcases hw with ⟨rfl, c_11, rfl⟩ | ⟨rfl, c_12, c_13, rfl⟩ | ⟨rfl, c_14, c_15, rfl⟩
      · have hP : va_P D vwCl [(m0, .inr (20, [.int 0, .int 0, .ref m1, .ref m2, .ref m3, .int 0, .ref m4, .ref m5, .ref m6, .int 0, .ref m7, .ref m8, .ref m9, .int 0, .ref m10, .int 0, .ref m11, .ref m12, .ref m13, .int 0, .ref m14, .int 0, .int 0, .int 0, .ref m15, .ref m16])), (m2, .inr (4, [.int 0, .ref td, .int 0]))] H := hP
        have hD : va_D A [(m0, .inr (20, [.int 0, .int 0, .ref m1, .ref m2, .ref m3, .int 0, .ref m4, .ref m5, .ref m6, .int 0, .ref m7, .ref m8, .ref m9, .int 0, .ref m10, .int 0, .ref m11, .ref m12, .ref m13, .int 0, .ref m14, .int 0, .int 0, .int 0, .ref m15, .ref m16])), (m2, .inr (4, [.int 0, .ref td, .int 0]))] := hD
        refine W.widen (k := 0) (n := 0) (Nat.le_of_ble_eq_true rfl) (Nat.le_of_ble_eq_true rfl) ?_
        refine lv_if_ne (tgt := 38) hx hb dX16_addChoice_31 (by decide) (fun c0 => absurd (by decide) c0) (fun _ => ?_)
        refine lv_iconst (v := 1) hx hb dX16_addChoice_34 (by decide) ?_
        refine lv_goto (tgt := 39) hx hb dX16_addChoice_35 (by decide) ?_
        refine lv_istore (lv' := [(5, .int 1), (0, .ref m0), (1, .int k1), (2, .int k2), (3, .int k3), (4, .int k4)]) hx hb dX16_addChoice_39 hl (by decide) rfl (fun ls hl => ?_)
        refine lv_iload hx hb dX16_addChoice_41 (lv_at hl 0 rfl) ?_
        refine lv_if_ne (tgt := 72) hx hb dX16_addChoice_43 (by decide) (fun _ => ?_) (fun c0 => absurd c0 (by decide))
        refine lv_iconst (v := 1) hx hb dX16_addChoice_72 (by decide) ?_
        refine lv_goto (tgt := 77) hx hb dX16_addChoice_73 (by decide) ?_
        refine lv_istore (lv' := [(5, .int 1), (0, .ref m0), (1, .int k1), (2, .int k2), (3, .int k3), (4, .int k4)]) hx hb dX16_addChoice_77 hl (by decide) rfl (fun ls hl => ?_)
        refine lv_aload_n hx hb dX16_addChoice_79 rfl (lv_at hl 1 rfl) ?_
        refine lv_iload hx hb dX16_addChoice_80 (lv_at hl 0 rfl) ?_
        refine lv_iconst (v := 1) hx hb dX16_addChoice_82 (by decide) ?_
        refine wq_i (wc := [(m0, .inr (20, [.int 0, .int 0, .ref m1, .ref m2, .ref m3, .int 0, .ref m4, .ref m5, .ref m6, .int 0, .ref m7, .ref m8, .ref m9, .int 0, .ref m10, .int 0, .ref m11, .ref m12, .ref m13, .int 0, .ref m14, .int 0, .int 0, .int 0, .ref m15, .ref m16]))]) (wr := [(m2, .inr (4, [.int 0, .ref td, .int 0]))]) (va_runV (As := [.int 1, .int 1]) (rest := []) ⟨hx, hb, hml, hown, hts⟩ (k_X16_fails_1_1 l D ty td mi H.size m0 m1 m2 m3 m4 m5 m6 m7 m8 m9 m10 m11 m12 m13 m14 m15 m16 0) (cwV 2 hts gv_k_X16_addChoice_7 rfl rfl rfl (by decide +kernel) ⟨(Nat.le_of_ble_eq_true rfl), (Nat.le_of_ble_eq_true rfl)⟩) (wq_preV hP hD hK hE hS hA [0] rfl (by decide) 0 20 rfl rfl) rfl rfl hl.1 rfl (lv_room (Nat.le_of_ble_eq_true rfl)) dX16_addChoice_83 ⟨(Nat.le_of_ble_eq_true rfl), (Nat.le_of_ble_eq_true rfl)⟩) hS hA hP hD [0] [1] rfl rfl (by decide) (by decide) (fun r u H locs hw hP hD hS => ?_)
        obtain ⟨rfl, rfl⟩ := hw
        have hP : va_P D vwCl [(m2, .inr (4, [.int 0, .ref td, .int 0])), (m0, .inr (20, [.int 1, .int 0, .ref m1, .ref m2, .ref m3, .int 0, .ref m4, .ref m5, .ref m6, .int 0, .ref m7, .ref m8, .ref m9, .int 0, .ref m10, .int 0, .ref m11, .ref m12, .ref m13, .int 0, .ref m14, .int 0, .int 0, .int 0, .ref m15, .ref m16]))] H := hP
        have hD : va_D A [(m2, .inr (4, [.int 0, .ref td, .int 0])), (m0, .inr (20, [.int 1, .int 0, .ref m1, .ref m2, .ref m3, .int 0, .ref m4, .ref m5, .ref m6, .int 0, .ref m7, .ref m8, .ref m9, .int 0, .ref m10, .int 0, .ref m11, .ref m12, .ref m13, .int 0, .ref m14, .int 0, .int 0, .int 0, .ref m15, .ref m16]))] := hD
        refine W.widen (k := 0) (n := 0) (Nat.le_of_ble_eq_true rfl) (Nat.le_of_ble_eq_true rfl) ?_
        refine lv_if_ne (tgt := 114) hx hb dX16_addChoice_86 (by decide) (fun _ => ?_) (fun c0 => absurd c0 (by decide))
        refine lv_iconst (v := 0) hx hb dX16_addChoice_114 (by decide) ?_
        have hP9 := hP.sub (ws' := [(m0, .inr (20, [.int 1, .int 0, .ref m1, .ref m2, .ref m3, .int 0, .ref m4, .ref m5, .ref m6, .int 0, .ref m7, .ref m8, .ref m9, .int 0, .ref m10, .int 0, .ref m11, .ref m12, .ref m13, .int 0, .ref m14, .int 0, .int 0, .int 0, .ref m15, .ref m16]))]) [1] rfl
        have hD9 := hD.sub (ws' := [(m0, .inr (20, [.int 1, .int 0, .ref m1, .ref m2, .ref m3, .int 0, .ref m4, .ref m5, .ref m6, .int 0, .ref m7, .ref m8, .ref m9, .int 0, .ref m10, .int 0, .ref m11, .ref m12, .ref m13, .int 0, .ref m14, .int 0, .int 0, .int 0, .ref m15, .ref m16]))]) [1] (by decide) rfl
        refine W.widen (k := 4) (n := 25) (Nat.le_of_ble_eq_true rfl) (Nat.le_of_ble_eq_true rfl) ?_
        exact W.iret (v := 0) hx hb hr (fun t ht hW => ⟨⟨0, [(m0, .inr (20, [.int 1, .int 0, .ref m1, .ref m2, .ref m3, .int 0, .ref m4, .ref m5, .ref m6, .int 0, .ref m7, .ref m8, .ref m9, .int 0, .ref m10, .int 0, .ref m11, .ref m12, .ref m13, .int 0, .ref m14, .int 0, .int 0, .int 0, .ref m15, .ref m16]))], rfl, (Or.inr (Or.inr (Or.inr (Or.inr (Or.inl ⟨rfl, c_4, c_5, c_9, c_10, c_11, rfl⟩))))), wq_B.of ht hP9 hD9⟩, hS.F ht⟩) hS.2.2 dX16_addChoice_115
      · have hP : va_P D vwCl [(m0, .inr (20, [.int 0, .int 0, .ref m1, .ref m2, .ref m3, .int 0, .ref m4, .ref m5, .ref m6, .int 0, .ref m7, .ref m8, .ref m9, .int 0, .ref m10, .int 0, .ref m11, .ref m12, .ref m13, .int 0, .ref m14, .int 0, .int 0, .int 0, .ref m15, .ref m16])), (m2, .inr (4, [.int 0, .ref td, .int 0]))] H := hP
        have hD : va_D A [(m0, .inr (20, [.int 0, .int 0, .ref m1, .ref m2, .ref m3, .int 0, .ref m4, .ref m5, .ref m6, .int 0, .ref m7, .ref m8, .ref m9, .int 0, .ref m10, .int 0, .ref m11, .ref m12, .ref m13, .int 0, .ref m14, .int 0, .int 0, .int 0, .ref m15, .ref m16])), (m2, .inr (4, [.int 0, .ref td, .int 0]))] := hD
        refine W.widen (k := 0) (n := 0) (Nat.le_of_ble_eq_true rfl) (Nat.le_of_ble_eq_true rfl) ?_
        refine lv_if_ne (tgt := 38) hx hb dX16_addChoice_31 (by decide) (fun c0 => absurd (by decide) c0) (fun _ => ?_)
        refine lv_iconst (v := 1) hx hb dX16_addChoice_34 (by decide) ?_
        refine lv_goto (tgt := 39) hx hb dX16_addChoice_35 (by decide) ?_
        refine lv_istore (lv' := [(5, .int 1), (0, .ref m0), (1, .int k1), (2, .int k2), (3, .int k3), (4, .int k4)]) hx hb dX16_addChoice_39 hl (by decide) rfl (fun ls hl => ?_)
        refine lv_iload hx hb dX16_addChoice_41 (lv_at hl 0 rfl) ?_
        refine lv_if_ne (tgt := 72) hx hb dX16_addChoice_43 (by decide) (fun _ => ?_) (fun c0 => absurd c0 (by decide))
        refine lv_iconst (v := 1) hx hb dX16_addChoice_72 (by decide) ?_
        refine lv_goto (tgt := 77) hx hb dX16_addChoice_73 (by decide) ?_
        refine lv_istore (lv' := [(5, .int 1), (0, .ref m0), (1, .int k1), (2, .int k2), (3, .int k3), (4, .int k4)]) hx hb dX16_addChoice_77 hl (by decide) rfl (fun ls hl => ?_)
        refine lv_aload_n hx hb dX16_addChoice_79 rfl (lv_at hl 1 rfl) ?_
        refine lv_iload hx hb dX16_addChoice_80 (lv_at hl 0 rfl) ?_
        refine lv_iconst (v := 1) hx hb dX16_addChoice_82 (by decide) ?_
        refine wq_i (wc := [(m0, .inr (20, [.int 0, .int 0, .ref m1, .ref m2, .ref m3, .int 0, .ref m4, .ref m5, .ref m6, .int 0, .ref m7, .ref m8, .ref m9, .int 0, .ref m10, .int 0, .ref m11, .ref m12, .ref m13, .int 0, .ref m14, .int 0, .int 0, .int 0, .ref m15, .ref m16]))]) (wr := [(m2, .inr (4, [.int 0, .ref td, .int 0]))]) (va_runV (As := [.int 1, .int 1]) (rest := []) ⟨hx, hb, hml, hown, hts⟩ (k_X16_fails_1_1 l D ty td mi H.size m0 m1 m2 m3 m4 m5 m6 m7 m8 m9 m10 m11 m12 m13 m14 m15 m16 0) (cwV 2 hts gv_k_X16_addChoice_8 rfl rfl rfl (by decide +kernel) ⟨(Nat.le_of_ble_eq_true rfl), (Nat.le_of_ble_eq_true rfl)⟩) (wq_preV hP hD hK hE hS hA [0] rfl (by decide) 0 20 rfl rfl) rfl rfl hl.1 rfl (lv_room (Nat.le_of_ble_eq_true rfl)) dX16_addChoice_83 ⟨(Nat.le_of_ble_eq_true rfl), (Nat.le_of_ble_eq_true rfl)⟩) hS hA hP hD [0] [1] rfl rfl (by decide) (by decide) (fun r u H locs hw hP hD hS => ?_)
        obtain ⟨rfl, rfl⟩ := hw
        have hP : va_P D vwCl [(m2, .inr (4, [.int 0, .ref td, .int 0])), (m0, .inr (20, [.int 1, .int 0, .ref m1, .ref m2, .ref m3, .int 0, .ref m4, .ref m5, .ref m6, .int 0, .ref m7, .ref m8, .ref m9, .int 0, .ref m10, .int 0, .ref m11, .ref m12, .ref m13, .int 0, .ref m14, .int 0, .int 0, .int 0, .ref m15, .ref m16]))] H := hP
        have hD : va_D A [(m2, .inr (4, [.int 0, .ref td, .int 0])), (m0, .inr (20, [.int 1, .int 0, .ref m1, .ref m2, .ref m3, .int 0, .ref m4, .ref m5, .ref m6, .int 0, .ref m7, .ref m8, .ref m9, .int 0, .ref m10, .int 0, .ref m11, .ref m12, .ref m13, .int 0, .ref m14, .int 0, .int 0, .int 0, .ref m15, .ref m16]))] := hD
        refine W.widen (k := 0) (n := 0) (Nat.le_of_ble_eq_true rfl) (Nat.le_of_ble_eq_true rfl) ?_
        refine lv_if_ne (tgt := 114) hx hb dX16_addChoice_86 (by decide) (fun _ => ?_) (fun c0 => absurd c0 (by decide))
        refine lv_iconst (v := 0) hx hb dX16_addChoice_114 (by decide) ?_
        have hP9 := hP.sub (ws' := [(m0, .inr (20, [.int 1, .int 0, .ref m1, .ref m2, .ref m3, .int 0, .ref m4, .ref m5, .ref m6, .int 0, .ref m7, .ref m8, .ref m9, .int 0, .ref m10, .int 0, .ref m11, .ref m12, .ref m13, .int 0, .ref m14, .int 0, .int 0, .int 0, .ref m15, .ref m16]))]) [1] rfl
        have hD9 := hD.sub (ws' := [(m0, .inr (20, [.int 1, .int 0, .ref m1, .ref m2, .ref m3, .int 0, .ref m4, .ref m5, .ref m6, .int 0, .ref m7, .ref m8, .ref m9, .int 0, .ref m10, .int 0, .ref m11, .ref m12, .ref m13, .int 0, .ref m14, .int 0, .int 0, .int 0, .ref m15, .ref m16]))]) [1] (by decide) rfl
        refine W.widen (k := 4) (n := 25) (Nat.le_of_ble_eq_true rfl) (Nat.le_of_ble_eq_true rfl) ?_
        exact W.iret (v := 0) hx hb hr (fun t ht hW => ⟨⟨0, [(m0, .inr (20, [.int 1, .int 0, .ref m1, .ref m2, .ref m3, .int 0, .ref m4, .ref m5, .ref m6, .int 0, .ref m7, .ref m8, .ref m9, .int 0, .ref m10, .int 0, .ref m11, .ref m12, .ref m13, .int 0, .ref m14, .int 0, .int 0, .int 0, .ref m15, .ref m16]))], rfl, (Or.inr (Or.inr (Or.inr (Or.inr (Or.inr (Or.inl ⟨rfl, c_4, c_5, c_9, c_10, c_12, c_13, rfl⟩)))))), wq_B.of ht hP9 hD9⟩, hS.F ht⟩) hS.2.2 dX16_addChoice_115
      · have hP : va_P D vwCl [(m0, .inr (20, [.int 0, .int 0, .ref m1, .ref m2, .ref m3, .int 0, .ref m4, .ref m5, .ref m6, .int 0, .ref m7, .ref m8, .ref m9, .int 0, .ref m10, .int 0, .ref m11, .ref m12, .ref m13, .int 0, .ref m14, .int 0, .int 0, .int 0, .ref m15, .ref m16])), (m2, .inr (4, [.int 0, .ref td, .int 0]))] H := hP
        have hD : va_D A [(m0, .inr (20, [.int 0, .int 0, .ref m1, .ref m2, .ref m3, .int 0, .ref m4, .ref m5, .ref m6, .int 0, .ref m7, .ref m8, .ref m9, .int 0, .ref m10, .int 0, .ref m11, .ref m12, .ref m13, .int 0, .ref m14, .int 0, .int 0, .int 0, .ref m15, .ref m16])), (m2, .inr (4, [.int 0, .ref td, .int 0]))] := hD
        refine W.widen (k := 0) (n := 0) (Nat.le_of_ble_eq_true rfl) (Nat.le_of_ble_eq_true rfl) ?_
        refine lv_if_ne (tgt := 38) hx hb dX16_addChoice_31 (by decide) (fun _ => ?_) (fun c0 => absurd c0 (by decide))
        refine lv_iconst (v := 0) hx hb dX16_addChoice_38 (by decide) ?_
        refine lv_istore (lv' := [(5, .int 0), (0, .ref m0), (1, .int k1), (2, .int k2), (3, .int k3), (4, .int k4)]) hx hb dX16_addChoice_39 hl (by decide) rfl (fun ls hl => ?_)
        refine lv_iload hx hb dX16_addChoice_41 (lv_at hl 0 rfl) ?_
        refine lv_if_ne (tgt := 72) hx hb dX16_addChoice_43 (by decide) (fun c0 => absurd (by decide) c0) (fun _ => ?_)
        refine lv_iload hx hb dX16_addChoice_46 (lv_at hl 5 rfl) ?_
        refine lv_iconst (v := (-1)) hx hb dX16_addChoice_48 (by decide) ?_
        refine lv_icmp_eq (tgt := 76) hx hb dX16_addChoice_49 (by decide) (fun c_16 => ?_) (fun c_16 => ?_)
        · refine lv_iconst (v := 0) hx hb dX16_addChoice_76 (by decide) ?_
          refine lv_istore (lv' := [(5, .int 0), (0, .ref m0), (1, .int k1), (2, .int k2), (3, .int k3), (4, .int k4)]) hx hb dX16_addChoice_77 hl (by decide) rfl (fun ls hl => ?_)
          refine lv_aload_n hx hb dX16_addChoice_79 rfl (lv_at hl 1 rfl) ?_
          refine lv_iload hx hb dX16_addChoice_80 (lv_at hl 0 rfl) ?_
          refine lv_iconst (v := 1) hx hb dX16_addChoice_82 (by decide) ?_
          refine wq_i (wc := [(m0, .inr (20, [.int 0, .int 0, .ref m1, .ref m2, .ref m3, .int 0, .ref m4, .ref m5, .ref m6, .int 0, .ref m7, .ref m8, .ref m9, .int 0, .ref m10, .int 0, .ref m11, .ref m12, .ref m13, .int 0, .ref m14, .int 0, .int 0, .int 0, .ref m15, .ref m16]))]) (wr := [(m2, .inr (4, [.int 0, .ref td, .int 0]))]) (va_runV (As := [.int 0, .int 1]) (rest := []) ⟨hx, hb, hml, hown, hts⟩ (k_X16_fails_0_1 l D ty td mi H.size m0 m1 m2 m3 m4 m5 m6 m7 m8 m9 m10 m11 m12 m13 m14 m15 m16 0) (cwV 2 hts gv_k_X16_addChoice_9 rfl rfl rfl (by decide +kernel) ⟨(Nat.le_of_ble_eq_true rfl), (Nat.le_of_ble_eq_true rfl)⟩) (wq_preV hP hD hK hE hS hA [0] rfl (by decide) 0 20 rfl rfl) rfl rfl hl.1 rfl (lv_room (Nat.le_of_ble_eq_true rfl)) dX16_addChoice_83 ⟨(Nat.le_of_ble_eq_true rfl), (Nat.le_of_ble_eq_true rfl)⟩) hS hA hP hD [0] [1] rfl rfl (by decide) (by decide) (fun r u H locs hw hP hD hS => ?_)
          obtain ⟨rfl, rfl⟩ := hw
          have hP : va_P D vwCl [(m2, .inr (4, [.int 0, .ref td, .int 0])), (m0, .inr (20, [.int 0, .int 0, .ref m1, .ref m2, .ref m3, .int 0, .ref m4, .ref m5, .ref m6, .int 0, .ref m7, .ref m8, .ref m9, .int 0, .ref m10, .int 0, .ref m11, .ref m12, .ref m13, .int 0, .ref m14, .int 0, .int 0, .int 0, .ref m15, .ref m16]))] H := hP
          have hD : va_D A [(m2, .inr (4, [.int 0, .ref td, .int 0])), (m0, .inr (20, [.int 0, .int 0, .ref m1, .ref m2, .ref m3, .int 0, .ref m4, .ref m5, .ref m6, .int 0, .ref m7, .ref m8, .ref m9, .int 0, .ref m10, .int 0, .ref m11, .ref m12, .ref m13, .int 0, .ref m14, .int 0, .int 0, .int 0, .ref m15, .ref m16]))] := hD
          refine W.widen (k := 0) (n := 0) (Nat.le_of_ble_eq_true rfl) (Nat.le_of_ble_eq_true rfl) ?_
          refine lv_if_ne (tgt := 114) hx hb dX16_addChoice_86 (by decide) (fun c0 => absurd (by decide) c0) (fun _ => ?_)
          refine lv_aload_n hx hb dX16_addChoice_89 rfl (lv_at hl 1 rfl) ?_
          refine lv_aload_n hx hb dX16_addChoice_90 rfl (lv_at hl 1 rfl) ?_
          refine va_get (D := D) (ci := 20) (v := .ref m2) (C := RX16) (T := TX16) (N := 26) hx hb hts iv_k_X16_addChoice_X16 hown hK hP 1 rfl rfl 3 (by decide) (hts (.fieldLink RX16 16 "AnswerFoldModel" "rules" "Ljava/util/ArrayList;") (by decide +kernel)) (fun _ h9 => h9) rfl dX16_addChoice_91 ?_
          refine wq_i (wc := [(m2, .inr (4, [.int 0, .ref td, .int 0]))]) (wr := [(m0, .inr (20, [.int 0, .int 0, .ref m1, .ref m2, .ref m3, .int 0, .ref m4, .ref m5, .ref m6, .int 0, .ref m7, .ref m8, .ref m9, .int 0, .ref m10, .int 0, .ref m11, .ref m12, .ref m13, .int 0, .ref m14, .int 0, .int 0, .int 0, .ref m15, .ref m16]))]) (va_runV (As := []) (rest := [.ref m0]) ⟨hx, hb, hml, hown, hts⟩ (k_size l D ty td mi H.size m2 td 0 0) (cwV 0 hts gv_k_X16_addChoice_10 rfl rfl rfl (by decide +kernel) ⟨(Nat.le_of_ble_eq_true rfl), (Nat.le_of_ble_eq_true rfl)⟩) (wq_preV hP hD hK hE hS hA [0] rfl (by decide) 0 4 rfl rfl) rfl rfl hl.1 rfl (lv_room (Nat.le_of_ble_eq_true rfl)) dX16_addChoice_94 ⟨(Nat.le_of_ble_eq_true rfl), (Nat.le_of_ble_eq_true rfl)⟩) hS hA hP hD [0] [1] rfl rfl (by decide) (by decide) (fun r u H locs hw hP hD hS => ?_)
          obtain ⟨rfl, rfl⟩ := hw
          have hP : va_P D vwCl [(m0, .inr (20, [.int 0, .int 0, .ref m1, .ref m2, .ref m3, .int 0, .ref m4, .ref m5, .ref m6, .int 0, .ref m7, .ref m8, .ref m9, .int 0, .ref m10, .int 0, .ref m11, .ref m12, .ref m13, .int 0, .ref m14, .int 0, .int 0, .int 0, .ref m15, .ref m16])), (m2, .inr (4, [.int 0, .ref td, .int 0]))] H := hP
          have hD : va_D A [(m0, .inr (20, [.int 0, .int 0, .ref m1, .ref m2, .ref m3, .int 0, .ref m4, .ref m5, .ref m6, .int 0, .ref m7, .ref m8, .ref m9, .int 0, .ref m10, .int 0, .ref m11, .ref m12, .ref m13, .int 0, .ref m14, .int 0, .int 0, .int 0, .ref m15, .ref m16])), (m2, .inr (4, [.int 0, .ref td, .int 0]))] := hD
          refine W.widen (k := 0) (n := 0) (Nat.le_of_ble_eq_true rfl) (Nat.le_of_ble_eq_true rfl) ?_
          refine lv_bipush (v := 20) hx hb dX16_addChoice_97 (by decide) ?_
          refine lv_icmp_ne (tgt := 106) hx hb dX16_addChoice_99 (by decide) (fun _ => ?_) (fun c0 => absurd c0 (by decide))
          refine lv_iconst (v := 0) hx hb dX16_addChoice_106 (by decide) ?_
          refine lv_iconst (v := 2) hx hb dX16_addChoice_107 (by decide) ?_
          refine wq_i (wc := [(m0, .inr (20, [.int 0, .int 0, .ref m1, .ref m2, .ref m3, .int 0, .ref m4, .ref m5, .ref m6, .int 0, .ref m7, .ref m8, .ref m9, .int 0, .ref m10, .int 0, .ref m11, .ref m12, .ref m13, .int 0, .ref m14, .int 0, .int 0, .int 0, .ref m15, .ref m16]))]) (wr := [(m2, .inr (4, [.int 0, .ref td, .int 0]))]) (va_runV (As := [.int 0, .int 2]) (rest := []) ⟨hx, hb, hml, hown, hts⟩ (k_X16_fails_0_2 l D ty td mi H.size m0 m1 m2 m3 m4 m5 m6 m7 m8 m9 m10 m11 m12 m13 m14 m15 m16 0) (cwV 2 hts gv_k_X16_addChoice_11 rfl rfl rfl (by decide +kernel) ⟨(Nat.le_of_ble_eq_true rfl), (Nat.le_of_ble_eq_true rfl)⟩) (wq_preV hP hD hK hE hS hA [0] rfl (by decide) 0 20 rfl rfl) rfl rfl hl.1 rfl (lv_room (Nat.le_of_ble_eq_true rfl)) dX16_addChoice_108 ⟨(Nat.le_of_ble_eq_true rfl), (Nat.le_of_ble_eq_true rfl)⟩) hS hA hP hD [0] [1] rfl rfl (by decide) (by decide) (fun r u H locs hw hP hD hS => ?_)
          obtain ⟨rfl, rfl⟩ := hw
          have hP : va_P D vwCl [(m2, .inr (4, [.int 0, .ref td, .int 0])), (m0, .inr (20, [.int 0, .int 0, .ref m1, .ref m2, .ref m3, .int 0, .ref m4, .ref m5, .ref m6, .int 0, .ref m7, .ref m8, .ref m9, .int 0, .ref m10, .int 0, .ref m11, .ref m12, .ref m13, .int 0, .ref m14, .int 0, .int 0, .int 0, .ref m15, .ref m16]))] H := hP
          have hD : va_D A [(m2, .inr (4, [.int 0, .ref td, .int 0])), (m0, .inr (20, [.int 0, .int 0, .ref m1, .ref m2, .ref m3, .int 0, .ref m4, .ref m5, .ref m6, .int 0, .ref m7, .ref m8, .ref m9, .int 0, .ref m10, .int 0, .ref m11, .ref m12, .ref m13, .int 0, .ref m14, .int 0, .int 0, .int 0, .ref m15, .ref m16]))] := hD
          refine W.widen (k := 0) (n := 0) (Nat.le_of_ble_eq_true rfl) (Nat.le_of_ble_eq_true rfl) ?_
          refine lv_if_eq (tgt := 116) hx hb dX16_addChoice_111 (by decide) (fun _ => ?_) (fun c0 => absurd (by decide) c0)
          refine va_new (ci := 19) (fs := [.int 0, .int 0, .int 0, .int 0, .int 0, .int 0, .int 0, .null, .null]) (C := RX15) (T := TX15) (N := 9) hx hb hts iv_k_X16_addChoice_X15 tyX15 tyX15_ok hown (hts (.classLink RX16 98 RX15) (by decide +kernel)) (hts (.instantiable RX15 9) (by decide +kernel)) (hts (.initialized RX15) (by decide +kernel)) hK hP hD hS hA rfl (fun j hj => by rcases (show j = 0 ∨ j = 1 ∨ j = 2 ∨ j = 3 ∨ j = 4 ∨ j = 5 ∨ j = 6 ∨ j = 7 ∨ j = 8 by omega) with rfl | rfl | rfl | rfl | rfl | rfl | rfl | rfl | rfl <;> rfl) (Nat.le_of_ble_eq_true rfl) (Nat.le_of_ble_eq_true rfl) dX16_addChoice_116 (fun q125 H hP hD hS => ?_)
          have hP : va_P D vwCl [(m2, .inr (4, [.int 0, .ref td, .int 0])), (m0, .inr (20, [.int 0, .int 0, .ref m1, .ref m2, .ref m3, .int 0, .ref m4, .ref m5, .ref m6, .int 0, .ref m7, .ref m8, .ref m9, .int 0, .ref m10, .int 0, .ref m11, .ref m12, .ref m13, .int 0, .ref m14, .int 0, .int 0, .int 0, .ref m15, .ref m16])), (q125, .inr (19, [.int 0, .int 0, .int 0, .int 0, .int 0, .int 0, .int 0, .null, .null]))] H := hP
          have hD : va_D A [(m2, .inr (4, [.int 0, .ref td, .int 0])), (m0, .inr (20, [.int 0, .int 0, .ref m1, .ref m2, .ref m3, .int 0, .ref m4, .ref m5, .ref m6, .int 0, .ref m7, .ref m8, .ref m9, .int 0, .ref m10, .int 0, .ref m11, .ref m12, .ref m13, .int 0, .ref m14, .int 0, .int 0, .int 0, .ref m15, .ref m16])), (q125, .inr (19, [.int 0, .int 0, .int 0, .int 0, .int 0, .int 0, .int 0, .null, .null]))] := hD
          refine W.widen (k := 1) (n := 9) (Nat.le_of_ble_eq_true rfl) (Nat.le_of_ble_eq_true rfl) ?_
          refine lv_dup hx hb dX16_addChoice_119 rfl ?_
          refine lv_bipush (v := 99) hx hb dX16_addChoice_120 (by decide) ?_
          refine lv_iload_n hx hb dX16_addChoice_122 rfl (lv_at hl 2 rfl) ?_
          refine wq_v (wc := [(q125, .inr (19, [.int 0, .int 0, .int 0, .int 0, .int 0, .int 0, .int 0, .null, .null]))]) (wr := [(m2, .inr (4, [.int 0, .ref td, .int 0])), (m0, .inr (20, [.int 0, .int 0, .ref m1, .ref m2, .ref m3, .int 0, .ref m4, .ref m5, .ref m6, .int 0, .ref m7, .ref m8, .ref m9, .int 0, .ref m10, .int 0, .ref m11, .ref m12, .ref m13, .int 0, .ref m14, .int 0, .int 0, .int 0, .ref m15, .ref m16]))]) (va_runI (As := [.int 99, .int k1]) (rest := [.ref q125]) ⟨hx, hb, hml, hown, hts⟩ (k_X15_init_c l D ty td mi H.size q125 k1) (cwI 2 hts gv_k_X16_addChoice_12 rfl rfl rfl (hts (.initialized RX15) (by decide +kernel)) (hts (.methodLink RX16 100 yX15_init) (by decide +kernel)) (hts (.instanceMethod yX15_init) (by decide +kernel)) rfl (by decide +kernel) ⟨(Nat.le_of_ble_eq_true rfl), (Nat.le_of_ble_eq_true rfl)⟩) (wq_preS hP hD hK hE hS hA [2] rfl (by decide)) rfl rfl hl.1 rfl (lv_room (Nat.le_of_ble_eq_true rfl)) dX16_addChoice_123 ⟨(Nat.le_of_ble_eq_true rfl), (Nat.le_of_ble_eq_true rfl)⟩) hS hA hP hD [2] [0, 1] rfl rfl (by decide) (by decide) (fun u H locs hw hP hD hS => ?_)
          obtain ⟨q126, q127, rfl⟩ := hw
          have hP : va_P D vwCl [(m2, .inr (4, [.int 0, .ref td, .int 0])), (m0, .inr (20, [.int 0, .int 0, .ref m1, .ref m2, .ref m3, .int 0, .ref m4, .ref m5, .ref m6, .int 0, .ref m7, .ref m8, .ref m9, .int 0, .ref m10, .int 0, .ref m11, .ref m12, .ref m13, .int 0, .ref m14, .int 0, .int 0, .int 0, .ref m15, .ref m16])), (q125, .inr (19, [.int 99, .int k1, .int 0, .int 0, .int (-1), .int 0, .int 0, .ref q126, .ref q127])), (q126, .inr (4, [.int 0, .ref td, .int 0])), (q127, .inr (4, [.int 0, .ref td, .int 0]))] H := hP
          have hD : va_D A [(m2, .inr (4, [.int 0, .ref td, .int 0])), (m0, .inr (20, [.int 0, .int 0, .ref m1, .ref m2, .ref m3, .int 0, .ref m4, .ref m5, .ref m6, .int 0, .ref m7, .ref m8, .ref m9, .int 0, .ref m10, .int 0, .ref m11, .ref m12, .ref m13, .int 0, .ref m14, .int 0, .int 0, .int 0, .ref m15, .ref m16])), (q125, .inr (19, [.int 99, .int k1, .int 0, .int 0, .int (-1), .int 0, .int 0, .ref q126, .ref q127])), (q126, .inr (4, [.int 0, .ref td, .int 0])), (q127, .inr (4, [.int 0, .ref td, .int 0]))] := hD
          refine W.widen (k := 3) (n := 15) (Nat.le_of_ble_eq_true rfl) (Nat.le_of_ble_eq_true rfl) ?_
          refine lv_astore (lv' := [(6, .ref q125), (5, .int 0), (0, .ref m0), (1, .int k1), (2, .int k2), (3, .int k3), (4, .int k4)]) hx hb dX16_addChoice_126 hl (by decide) rfl (fun ls hl => ?_)
          refine lv_aload hx hb dX16_addChoice_128 (lv_at hl 0 rfl) ?_
          refine lv_iload_n hx hb dX16_addChoice_130 rfl (lv_at hl 4 rfl) ?_
          refine va_put (D := D) (ci := 19) (v := .int k2) (ty := tyX15 2) (C := RX15) (T := TX15) (N := 9) hx hb hts iv_k_X16_addChoice_X15 tyX15 tyX15_ok nmX15 hown hK hP hD hS 2 rfl rfl 2 (by decide) (hts (.fieldLink RX16 110 "AnswerFoldModel$Rule" "lower" "I") (by decide +kernel)) (fun _ h9 => h9) rfl (by decide +kernel) rfl rfl (Nat.le_of_ble_eq_true rfl) dX16_addChoice_131 (fun H locs hP hD hS => ?_)
          have hP : va_P D vwCl [(m2, .inr (4, [.int 0, .ref td, .int 0])), (m0, .inr (20, [.int 0, .int 0, .ref m1, .ref m2, .ref m3, .int 0, .ref m4, .ref m5, .ref m6, .int 0, .ref m7, .ref m8, .ref m9, .int 0, .ref m10, .int 0, .ref m11, .ref m12, .ref m13, .int 0, .ref m14, .int 0, .int 0, .int 0, .ref m15, .ref m16])), (q125, .inr (19, [.int 99, .int k1, .int k2, .int 0, .int (-1), .int 0, .int 0, .ref q126, .ref q127])), (q126, .inr (4, [.int 0, .ref td, .int 0])), (q127, .inr (4, [.int 0, .ref td, .int 0]))] H := hP
          have hD : va_D A [(m2, .inr (4, [.int 0, .ref td, .int 0])), (m0, .inr (20, [.int 0, .int 0, .ref m1, .ref m2, .ref m3, .int 0, .ref m4, .ref m5, .ref m6, .int 0, .ref m7, .ref m8, .ref m9, .int 0, .ref m10, .int 0, .ref m11, .ref m12, .ref m13, .int 0, .ref m14, .int 0, .int 0, .int 0, .ref m15, .ref m16])), (q125, .inr (19, [.int 99, .int k1, .int k2, .int 0, .int (-1), .int 0, .int 0, .ref q126, .ref q127])), (q126, .inr (4, [.int 0, .ref td, .int 0])), (q127, .inr (4, [.int 0, .ref td, .int 0]))] := hD
          refine lv_aload hx hb dX16_addChoice_134 (lv_at hl 0 rfl) ?_
          refine lv_iload_n hx hb dX16_addChoice_136 rfl (lv_at hl 5 rfl) ?_
          refine va_put (D := D) (ci := 19) (v := .int k3) (ty := tyX15 3) (C := RX15) (T := TX15) (N := 9) hx hb hts iv_k_X16_addChoice_X15 tyX15 tyX15_ok nmX15 hown hK hP hD hS 2 rfl rfl 3 (by decide) (hts (.fieldLink RX16 113 "AnswerFoldModel$Rule" "upper" "I") (by decide +kernel)) (fun _ h9 => h9) rfl (by decide +kernel) rfl rfl (Nat.le_of_ble_eq_true rfl) dX16_addChoice_137 (fun H locs hP hD hS => ?_)
          have hP : va_P D vwCl [(m2, .inr (4, [.int 0, .ref td, .int 0])), (m0, .inr (20, [.int 0, .int 0, .ref m1, .ref m2, .ref m3, .int 0, .ref m4, .ref m5, .ref m6, .int 0, .ref m7, .ref m8, .ref m9, .int 0, .ref m10, .int 0, .ref m11, .ref m12, .ref m13, .int 0, .ref m14, .int 0, .int 0, .int 0, .ref m15, .ref m16])), (q125, .inr (19, [.int 99, .int k1, .int k2, .int k3, .int (-1), .int 0, .int 0, .ref q126, .ref q127])), (q126, .inr (4, [.int 0, .ref td, .int 0])), (q127, .inr (4, [.int 0, .ref td, .int 0]))] H := hP
          have hD : va_D A [(m2, .inr (4, [.int 0, .ref td, .int 0])), (m0, .inr (20, [.int 0, .int 0, .ref m1, .ref m2, .ref m3, .int 0, .ref m4, .ref m5, .ref m6, .int 0, .ref m7, .ref m8, .ref m9, .int 0, .ref m10, .int 0, .ref m11, .ref m12, .ref m13, .int 0, .ref m14, .int 0, .int 0, .int 0, .ref m15, .ref m16])), (q125, .inr (19, [.int 99, .int k1, .int k2, .int k3, .int (-1), .int 0, .int 0, .ref q126, .ref q127])), (q126, .inr (4, [.int 0, .ref td, .int 0])), (q127, .inr (4, [.int 0, .ref td, .int 0]))] := hD
          refine lv_aload hx hb dX16_addChoice_140 (lv_at hl 0 rfl) ?_
          refine lv_iload hx hb dX16_addChoice_142 (lv_at hl 6 rfl) ?_
          refine va_put (D := D) (ci := 19) (v := .int k4) (ty := tyX15 4) (C := RX15) (T := TX15) (N := 9) hx hb hts iv_k_X16_addChoice_X15 tyX15 tyX15_ok nmX15 hown hK hP hD hS 2 rfl rfl 4 (by decide) (hts (.fieldLink RX16 116 "AnswerFoldModel$Rule" "span" "I") (by decide +kernel)) (fun _ h9 => h9) rfl (by decide +kernel) rfl rfl (Nat.le_of_ble_eq_true rfl) dX16_addChoice_144 (fun H locs hP hD hS => ?_)
          have hP : va_P D vwCl [(m2, .inr (4, [.int 0, .ref td, .int 0])), (m0, .inr (20, [.int 0, .int 0, .ref m1, .ref m2, .ref m3, .int 0, .ref m4, .ref m5, .ref m6, .int 0, .ref m7, .ref m8, .ref m9, .int 0, .ref m10, .int 0, .ref m11, .ref m12, .ref m13, .int 0, .ref m14, .int 0, .int 0, .int 0, .ref m15, .ref m16])), (q125, .inr (19, [.int 99, .int k1, .int k2, .int k3, .int k4, .int 0, .int 0, .ref q126, .ref q127])), (q126, .inr (4, [.int 0, .ref td, .int 0])), (q127, .inr (4, [.int 0, .ref td, .int 0]))] H := hP
          have hD : va_D A [(m2, .inr (4, [.int 0, .ref td, .int 0])), (m0, .inr (20, [.int 0, .int 0, .ref m1, .ref m2, .ref m3, .int 0, .ref m4, .ref m5, .ref m6, .int 0, .ref m7, .ref m8, .ref m9, .int 0, .ref m10, .int 0, .ref m11, .ref m12, .ref m13, .int 0, .ref m14, .int 0, .int 0, .int 0, .ref m15, .ref m16])), (q125, .inr (19, [.int 99, .int k1, .int k2, .int k3, .int k4, .int 0, .int 0, .ref q126, .ref q127])), (q126, .inr (4, [.int 0, .ref td, .int 0])), (q127, .inr (4, [.int 0, .ref td, .int 0]))] := hD
          refine lv_aload_n hx hb dX16_addChoice_147 rfl (lv_at hl 2 rfl) ?_
          refine lv_aload hx hb dX16_addChoice_148 (lv_at hl 0 rfl) ?_
          refine wq_i (wc := [(m0, .inr (20, [.int 0, .int 0, .ref m1, .ref m2, .ref m3, .int 0, .ref m4, .ref m5, .ref m6, .int 0, .ref m7, .ref m8, .ref m9, .int 0, .ref m10, .int 0, .ref m11, .ref m12, .ref m13, .int 0, .ref m14, .int 0, .int 0, .int 0, .ref m15, .ref m16])), (m2, .inr (4, [.int 0, .ref td, .int 0])), (q125, .inr (19, [.int 99, .int k1, .int k2, .int k3, .int k4, .int 0, .int 0, .ref q126, .ref q127]))]) (wr := [(q126, .inr (4, [.int 0, .ref td, .int 0])), (q127, .inr (4, [.int 0, .ref td, .int 0]))]) (va_runV (As := [.ref q125]) (rest := []) ⟨hx, hb, hml, hown, hts⟩ (k_X16_add l D ty td mi H.size m0 m1 m2 m3 m4 m5 m6 m7 m8 m9 m10 m11 m12 m13 m14 m15 m16 q125 q126 q127 q125 99 k1 k2 k3 k4 0 0 q126 q127) (cwV 1 hts gv_k_X16_addChoice_13 rfl rfl rfl (by decide +kernel) ⟨(Nat.le_of_ble_eq_true rfl), (Nat.le_of_ble_eq_true rfl)⟩) (wq_preV hP hD hK hE hS hA [1, 0, 2] rfl (by decide) 1 20 rfl rfl) rfl rfl hl.1 rfl (lv_room (Nat.le_of_ble_eq_true rfl)) dX16_addChoice_150 ⟨(Nat.le_of_ble_eq_true rfl), (Nat.le_of_ble_eq_true rfl)⟩) hS hA hP hD [1, 0, 2] [3, 4] rfl rfl (by decide) (by decide) (fun r u H locs hw hP hD hS => ?_)
          obtain ⟨rfl, rfl⟩ := hw
          have hP : va_P D vwCl [(q126, .inr (4, [.int 0, .ref td, .int 0])), (q127, .inr (4, [.int 0, .ref td, .int 0])), (m0, .inr (20, [.int 0, .int 0, .ref m1, .ref m2, .ref m3, .int 0, .ref m4, .ref m5, .ref m6, .int 0, .ref m7, .ref m8, .ref m9, .int 0, .ref m10, .int 0, .ref m11, .ref m12, .ref m13, .int 0, .ref m14, .int 0, .int 0, .int 0, .ref m15, .ref m16]))] H := hP
          have hD : va_D A [(q126, .inr (4, [.int 0, .ref td, .int 0])), (q127, .inr (4, [.int 0, .ref td, .int 0])), (m0, .inr (20, [.int 0, .int 0, .ref m1, .ref m2, .ref m3, .int 0, .ref m4, .ref m5, .ref m6, .int 0, .ref m7, .ref m8, .ref m9, .int 0, .ref m10, .int 0, .ref m11, .ref m12, .ref m13, .int 0, .ref m14, .int 0, .int 0, .int 0, .ref m15, .ref m16]))] := hD
          refine W.widen (k := 4) (n := 25) (Nat.le_of_ble_eq_true rfl) (Nat.le_of_ble_eq_true rfl) ?_
          have hP9 := hP.sub (ws' := [(m0, .inr (20, [.int 0, .int 0, .ref m1, .ref m2, .ref m3, .int 0, .ref m4, .ref m5, .ref m6, .int 0, .ref m7, .ref m8, .ref m9, .int 0, .ref m10, .int 0, .ref m11, .ref m12, .ref m13, .int 0, .ref m14, .int 0, .int 0, .int 0, .ref m15, .ref m16]))]) [2] rfl
          have hD9 := hD.sub (ws' := [(m0, .inr (20, [.int 0, .int 0, .ref m1, .ref m2, .ref m3, .int 0, .ref m4, .ref m5, .ref m6, .int 0, .ref m7, .ref m8, .ref m9, .int 0, .ref m10, .int 0, .ref m11, .ref m12, .ref m13, .int 0, .ref m14, .int 0, .int 0, .int 0, .ref m15, .ref m16]))]) [2] (by decide) rfl
          refine W.widen (k := 4) (n := 25) (Nat.le_of_ble_eq_true rfl) (Nat.le_of_ble_eq_true rfl) ?_
          exact W.iret (v := 0) hx hb hr (fun t ht hW => ⟨⟨0, [(m0, .inr (20, [.int 0, .int 0, .ref m1, .ref m2, .ref m3, .int 0, .ref m4, .ref m5, .ref m6, .int 0, .ref m7, .ref m8, .ref m9, .int 0, .ref m10, .int 0, .ref m11, .ref m12, .ref m13, .int 0, .ref m14, .int 0, .int 0, .int 0, .ref m15, .ref m16]))], rfl, (Or.inr (Or.inr (Or.inr (Or.inr (Or.inr (Or.inr (Or.inl ⟨rfl, c_4, c_5, c_9, c_10, c_14, c_15, c_16, rfl⟩))))))), wq_B.of ht hP9 hD9⟩, hS.F ht⟩) hS.2.2 dX16_addChoice_153
        · refine lv_aload_n hx hb dX16_addChoice_52 rfl (lv_at hl 1 rfl) ?_
          refine lv_iload hx hb dX16_addChoice_53 (lv_at hl 5 rfl) ?_
          refine wq_i (wc := [(m0, .inr (20, [.int 0, .int 0, .ref m1, .ref m2, .ref m3, .int 0, .ref m4, .ref m5, .ref m6, .int 0, .ref m7, .ref m8, .ref m9, .int 0, .ref m10, .int 0, .ref m11, .ref m12, .ref m13, .int 0, .ref m14, .int 0, .int 0, .int 0, .ref m15, .ref m16]))]) (wr := [(m2, .inr (4, [.int 0, .ref td, .int 0]))]) (va_runV (As := [.int k4]) (rest := []) ⟨hx, hb, hml, hown, hts⟩ (k_X16_noPredicate l D ty td mi H.size m0 m1 m2 m3 m4 m5 m6 m7 m8 m9 m10 m11 m12 m13 m14 m15 m16 k4) (cwV 1 hts gv_k_X16_addChoice_14 rfl rfl rfl (by decide +kernel) ⟨(Nat.le_of_ble_eq_true rfl), (Nat.le_of_ble_eq_true rfl)⟩) (wq_preV hP hD hK hE hS hA [0] rfl (by decide) 0 20 rfl rfl) rfl rfl hl.1 rfl (lv_room (Nat.le_of_ble_eq_true rfl)) dX16_addChoice_55 ⟨(Nat.le_of_ble_eq_true rfl), (Nat.le_of_ble_eq_true rfl)⟩) hS hA hP hD [0] [1] rfl rfl (by decide) (by decide) (fun r u H locs hw hP hD hS => ?_)
          obtain ⟨rfl, rfl⟩ := hw
          have hP : va_P D vwCl [(m2, .inr (4, [.int 0, .ref td, .int 0])), (m0, .inr (20, [.int 0, .int 0, .ref m1, .ref m2, .ref m3, .int 0, .ref m4, .ref m5, .ref m6, .int 0, .ref m7, .ref m8, .ref m9, .int 0, .ref m10, .int 0, .ref m11, .ref m12, .ref m13, .int 0, .ref m14, .int 0, .int 0, .int 0, .ref m15, .ref m16]))] H := hP
          have hD : va_D A [(m2, .inr (4, [.int 0, .ref td, .int 0])), (m0, .inr (20, [.int 0, .int 0, .ref m1, .ref m2, .ref m3, .int 0, .ref m4, .ref m5, .ref m6, .int 0, .ref m7, .ref m8, .ref m9, .int 0, .ref m10, .int 0, .ref m11, .ref m12, .ref m13, .int 0, .ref m14, .int 0, .int 0, .int 0, .ref m15, .ref m16]))] := hD
          refine W.widen (k := 0) (n := 0) (Nat.le_of_ble_eq_true rfl) (Nat.le_of_ble_eq_true rfl) ?_
          refine lv_if_ne (tgt := 72) hx hb dX16_addChoice_58 (by decide) (fun _ => ?_) (fun c0 => absurd c0 (by decide))
          refine lv_iconst (v := 1) hx hb dX16_addChoice_72 (by decide) ?_
          refine lv_goto (tgt := 77) hx hb dX16_addChoice_73 (by decide) ?_
          refine lv_istore (lv' := [(5, .int 1), (0, .ref m0), (1, .int k1), (2, .int k2), (3, .int k3), (4, .int k4)]) hx hb dX16_addChoice_77 hl (by decide) rfl (fun ls hl => ?_)
          refine lv_aload_n hx hb dX16_addChoice_79 rfl (lv_at hl 1 rfl) ?_
          refine lv_iload hx hb dX16_addChoice_80 (lv_at hl 0 rfl) ?_
          refine lv_iconst (v := 1) hx hb dX16_addChoice_82 (by decide) ?_
          refine wq_i (wc := [(m0, .inr (20, [.int 0, .int 0, .ref m1, .ref m2, .ref m3, .int 0, .ref m4, .ref m5, .ref m6, .int 0, .ref m7, .ref m8, .ref m9, .int 0, .ref m10, .int 0, .ref m11, .ref m12, .ref m13, .int 0, .ref m14, .int 0, .int 0, .int 0, .ref m15, .ref m16]))]) (wr := [(m2, .inr (4, [.int 0, .ref td, .int 0]))]) (va_runV (As := [.int 1, .int 1]) (rest := []) ⟨hx, hb, hml, hown, hts⟩ (k_X16_fails_1_1 l D ty td mi H.size m0 m1 m2 m3 m4 m5 m6 m7 m8 m9 m10 m11 m12 m13 m14 m15 m16 0) (cwV 2 hts gv_k_X16_addChoice_15 rfl rfl rfl (by decide +kernel) ⟨(Nat.le_of_ble_eq_true rfl), (Nat.le_of_ble_eq_true rfl)⟩) (wq_preV hP hD hK hE hS hA [1] rfl (by decide) 1 20 rfl rfl) rfl rfl hl.1 rfl (lv_room (Nat.le_of_ble_eq_true rfl)) dX16_addChoice_83 ⟨(Nat.le_of_ble_eq_true rfl), (Nat.le_of_ble_eq_true rfl)⟩) hS hA hP hD [1] [0] rfl rfl (by decide) (by decide) (fun r u H locs hw hP hD hS => ?_)
          obtain ⟨rfl, rfl⟩ := hw
          have hP : va_P D vwCl [(m2, .inr (4, [.int 0, .ref td, .int 0])), (m0, .inr (20, [.int 1, .int 0, .ref m1, .ref m2, .ref m3, .int 0, .ref m4, .ref m5, .ref m6, .int 0, .ref m7, .ref m8, .ref m9, .int 0, .ref m10, .int 0, .ref m11, .ref m12, .ref m13, .int 0, .ref m14, .int 0, .int 0, .int 0, .ref m15, .ref m16]))] H := hP
          have hD : va_D A [(m2, .inr (4, [.int 0, .ref td, .int 0])), (m0, .inr (20, [.int 1, .int 0, .ref m1, .ref m2, .ref m3, .int 0, .ref m4, .ref m5, .ref m6, .int 0, .ref m7, .ref m8, .ref m9, .int 0, .ref m10, .int 0, .ref m11, .ref m12, .ref m13, .int 0, .ref m14, .int 0, .int 0, .int 0, .ref m15, .ref m16]))] := hD
          refine W.widen (k := 0) (n := 0) (Nat.le_of_ble_eq_true rfl) (Nat.le_of_ble_eq_true rfl) ?_
          refine lv_if_ne (tgt := 114) hx hb dX16_addChoice_86 (by decide) (fun _ => ?_) (fun c0 => absurd c0 (by decide))
          refine lv_iconst (v := 0) hx hb dX16_addChoice_114 (by decide) ?_
          have hP9 := hP.sub (ws' := [(m0, .inr (20, [.int 1, .int 0, .ref m1, .ref m2, .ref m3, .int 0, .ref m4, .ref m5, .ref m6, .int 0, .ref m7, .ref m8, .ref m9, .int 0, .ref m10, .int 0, .ref m11, .ref m12, .ref m13, .int 0, .ref m14, .int 0, .int 0, .int 0, .ref m15, .ref m16]))]) [1] rfl
          have hD9 := hD.sub (ws' := [(m0, .inr (20, [.int 1, .int 0, .ref m1, .ref m2, .ref m3, .int 0, .ref m4, .ref m5, .ref m6, .int 0, .ref m7, .ref m8, .ref m9, .int 0, .ref m10, .int 0, .ref m11, .ref m12, .ref m13, .int 0, .ref m14, .int 0, .int 0, .int 0, .ref m15, .ref m16]))]) [1] (by decide) rfl
          refine W.widen (k := 4) (n := 25) (Nat.le_of_ble_eq_true rfl) (Nat.le_of_ble_eq_true rfl) ?_
          exact W.iret (v := 0) hx hb hr (fun t ht hW => ⟨⟨0, [(m0, .inr (20, [.int 1, .int 0, .ref m1, .ref m2, .ref m3, .int 0, .ref m4, .ref m5, .ref m6, .int 0, .ref m7, .ref m8, .ref m9, .int 0, .ref m10, .int 0, .ref m11, .ref m12, .ref m13, .int 0, .ref m14, .int 0, .int 0, .int 0, .ref m15, .ref m16]))], rfl, (Or.inr (Or.inr (Or.inr (Or.inr (Or.inr (Or.inr (Or.inr ⟨rfl, c_4, c_5, c_9, c_10, c_14, c_15, c_16, rfl⟩))))))), wq_B.of ht hP9 hD9⟩, hS.F ht⟩) hS.2.2 dX16_addChoice_115
def vs_k_X16_addWeak : List Cond := .code yX16_addWeak cX16_addWeak 5 (some .int) :: ([.fieldLink RX16 65 "AnswerFoldModel" "thrown" "I", .methodLink RX16 72 yX16_in, .static yX16_in, .initialized RX16, .methodLink RX16 87 yX16_fails, .instanceMethod yX16_fails, .selects RX16 yX16_fails yX16_fails, .fieldLink RX16 16 "AnswerFoldModel" "rules" "Ljava/util/ArrayList;", .methodLink RX16 76 yJx4a65c_size_8abf5, .instanceMethod yJx4a65c_size_8abf5, .selects RJx4a65c yJx4a65c_size_8abf5 yJx4a65c_size_8abf5, .initialized RJx4a65c, .classLink RX16 98 RX15, .instantiable RX15 9, .initialized RX15, .methodLink RX16 100 yX15_init, .instanceMethod yX15_init, .fieldLink RX16 119 "AnswerFoldModel$Rule" "weight" "I", .fieldLink RX16 122 "AnswerFoldModel$Rule" "level" "I", .methodLink RX16 103 yX16_add, .instanceMethod yX16_add, .selects RX16 yX16_add yX16_add] ++ (u_ws RX16 TX16 26 ++ (vs_k_X16_in ++ (vs_k_X16_fails_1_1 ++ (vs_k_X16_fails_0_1 ++ (vs_k_size ++ (vs_k_X16_fails_0_2 ++ (u_ws RX15 TX15 9 ++ (vs_k_X15_init_w ++ (vs_k_X16_add))))))))))
theorem iv_k_X16_addWeak_X15 : ∀ w ∈ u_ws RX15 TX15 9, w ∈ vs_k_X16_addWeak := (fun _ h => List.mem_cons_of_mem _ (List.mem_append_right _ (List.mem_append_right _ (List.mem_append_right _ (List.mem_append_right _ (List.mem_append_right _ (List.mem_append_right _ (List.mem_append_right _ (List.mem_append_left _ h)))))))))
theorem iv_k_X16_addWeak_X16 : ∀ w ∈ u_ws RX16 TX16 26, w ∈ vs_k_X16_addWeak := (fun _ h => List.mem_cons_of_mem _ (List.mem_append_right _ (List.mem_append_left _ h)))
set_option maxRecDepth 20000 in
theorem gv_k_X16_addWeak_0 : GoodIn vs_k_X16_addWeak (va_wsS RX16 72 yX16_in vs_k_X16_in) := goodIn_app (goodIn_sub (by decide +kernel) (by decide +kernel)) (goodIn_sub (fun _ h => List.mem_cons_of_mem _ (List.mem_append_right _ (List.mem_append_right _ (List.mem_append_left _ h)))) (by decide +kernel))
set_option maxRecDepth 20000 in
theorem gv_k_X16_addWeak_1 : GoodIn vs_k_X16_addWeak (wsV RX16 87 RX16 yX16_fails vs_k_X16_fails_1_1) := goodIn_app (goodIn_sub (by decide +kernel) (by decide +kernel)) (goodIn_sub (fun _ h => List.mem_cons_of_mem _ (List.mem_append_right _ (List.mem_append_right _ (List.mem_append_right _ (List.mem_append_left _ h))))) (by decide +kernel))
set_option maxRecDepth 20000 in
theorem gv_k_X16_addWeak_2 : GoodIn vs_k_X16_addWeak (wsV RX16 87 RX16 yX16_fails vs_k_X16_fails_1_1) := goodIn_app (goodIn_sub (by decide +kernel) (by decide +kernel)) (goodIn_sub (fun _ h => List.mem_cons_of_mem _ (List.mem_append_right _ (List.mem_append_right _ (List.mem_append_right _ (List.mem_append_left _ h))))) (by decide +kernel))
set_option maxRecDepth 20000 in
theorem gv_k_X16_addWeak_3 : GoodIn vs_k_X16_addWeak (va_wsS RX16 72 yX16_in vs_k_X16_in) := goodIn_app (goodIn_sub (by decide +kernel) (by decide +kernel)) (goodIn_sub (fun _ h => List.mem_cons_of_mem _ (List.mem_append_right _ (List.mem_append_right _ (List.mem_append_left _ h)))) (by decide +kernel))
set_option maxRecDepth 20000 in
theorem gv_k_X16_addWeak_4 : GoodIn vs_k_X16_addWeak (wsV RX16 87 RX16 yX16_fails vs_k_X16_fails_1_1) := goodIn_app (goodIn_sub (by decide +kernel) (by decide +kernel)) (goodIn_sub (fun _ h => List.mem_cons_of_mem _ (List.mem_append_right _ (List.mem_append_right _ (List.mem_append_right _ (List.mem_append_left _ h))))) (by decide +kernel))
set_option maxRecDepth 20000 in
theorem gv_k_X16_addWeak_5 : GoodIn vs_k_X16_addWeak (wsV RX16 87 RX16 yX16_fails vs_k_X16_fails_1_1) := goodIn_app (goodIn_sub (by decide +kernel) (by decide +kernel)) (goodIn_sub (fun _ h => List.mem_cons_of_mem _ (List.mem_append_right _ (List.mem_append_right _ (List.mem_append_right _ (List.mem_append_left _ h))))) (by decide +kernel))
set_option maxRecDepth 20000 in
theorem gv_k_X16_addWeak_6 : GoodIn vs_k_X16_addWeak (va_wsS RX16 72 yX16_in vs_k_X16_in) := goodIn_app (goodIn_sub (by decide +kernel) (by decide +kernel)) (goodIn_sub (fun _ h => List.mem_cons_of_mem _ (List.mem_append_right _ (List.mem_append_right _ (List.mem_append_left _ h)))) (by decide +kernel))
set_option maxRecDepth 20000 in
theorem gv_k_X16_addWeak_7 : GoodIn vs_k_X16_addWeak (wsV RX16 87 RX16 yX16_fails vs_k_X16_fails_1_1) := goodIn_app (goodIn_sub (by decide +kernel) (by decide +kernel)) (goodIn_sub (fun _ h => List.mem_cons_of_mem _ (List.mem_append_right _ (List.mem_append_right _ (List.mem_append_right _ (List.mem_append_left _ h))))) (by decide +kernel))
set_option maxRecDepth 20000 in
theorem gv_k_X16_addWeak_8 : GoodIn vs_k_X16_addWeak (wsV RX16 87 RX16 yX16_fails vs_k_X16_fails_1_1) := goodIn_app (goodIn_sub (by decide +kernel) (by decide +kernel)) (goodIn_sub (fun _ h => List.mem_cons_of_mem _ (List.mem_append_right _ (List.mem_append_right _ (List.mem_append_right _ (List.mem_append_left _ h))))) (by decide +kernel))
set_option maxRecDepth 20000 in
theorem gv_k_X16_addWeak_9 : GoodIn vs_k_X16_addWeak (wsV RX16 87 RX16 yX16_fails vs_k_X16_fails_0_1) := goodIn_app (goodIn_sub (by decide +kernel) (by decide +kernel)) (goodIn_sub (fun _ h => List.mem_cons_of_mem _ (List.mem_append_right _ (List.mem_append_right _ (List.mem_append_right _ (List.mem_append_right _ (List.mem_append_left _ h)))))) (by decide +kernel))
set_option maxRecDepth 20000 in
theorem gv_k_X16_addWeak_10 : GoodIn vs_k_X16_addWeak (wsV RX16 76 RJx4a65c yJx4a65c_size_8abf5 vs_k_size) := goodIn_app (goodIn_sub (by decide +kernel) (by decide +kernel)) (goodIn_sub (fun _ h => List.mem_cons_of_mem _ (List.mem_append_right _ (List.mem_append_right _ (List.mem_append_right _ (List.mem_append_right _ (List.mem_append_right _ (List.mem_append_left _ h))))))) (by decide +kernel))
set_option maxRecDepth 20000 in
theorem gv_k_X16_addWeak_11 : GoodIn vs_k_X16_addWeak (wsV RX16 87 RX16 yX16_fails vs_k_X16_fails_0_2) := goodIn_app (goodIn_sub (by decide +kernel) (by decide +kernel)) (goodIn_sub (fun _ h => List.mem_cons_of_mem _ (List.mem_append_right _ (List.mem_append_right _ (List.mem_append_right _ (List.mem_append_right _ (List.mem_append_right _ (List.mem_append_right _ (List.mem_append_left _ h)))))))) (by decide +kernel))
set_option maxRecDepth 20000 in
theorem gv_k_X16_addWeak_12 : GoodIn vs_k_X16_addWeak (vs_k_X15_init_w) := (goodIn_sub (fun _ h => List.mem_cons_of_mem _ (List.mem_append_right _ (List.mem_append_right _ (List.mem_append_right _ (List.mem_append_right _ (List.mem_append_right _ (List.mem_append_right _ (List.mem_append_right _ (List.mem_append_right _ (List.mem_append_left _ h)))))))))) (by decide +kernel))
set_option maxRecDepth 20000 in
theorem gv_k_X16_addWeak_13 : GoodIn vs_k_X16_addWeak (wsV RX16 103 RX16 yX16_add vs_k_X16_add) := goodIn_app (goodIn_sub (by decide +kernel) (by decide +kernel)) (goodIn_sub (fun _ h => List.mem_cons_of_mem _ (List.mem_append_right _ (List.mem_append_right _ (List.mem_append_right _ (List.mem_append_right _ (List.mem_append_right _ (List.mem_append_right _ (List.mem_append_right _ (List.mem_append_right _ (List.mem_append_right _ (h))))))))))) (by decide +kernel))
set_option maxHeartbeats 4000000 in
set_option maxRecDepth 100000 in
theorem k_X16_addWeak (l : Launch) (D : va_G) (ty : Nat → ClassId) (td mi sz : Nat) (m0 : Nat) (m1 : Nat) (m2 : Nat) (m3 : Nat) (m4 : Nat) (m5 : Nat) (m6 : Nat) (m7 : Nat) (m8 : Nat) (m9 : Nat) (m10 : Nat) (m11 : Nat) (m12 : Nat) (m13 : Nat) (m14 : Nat) (m15 : Nat) (m16 : Nat) (k1 : Int32) (k2 : Int32) (k3 : Int32) : Met l yX16_addWeak vs_k_X16_addWeak { frames := 6, cells := 4, slots := 25, locals := 122 } (va_Pc [.ref m0, .int k1, .int k2, .int k3] (wq_P D ty td mi [(m0, .inr (20, [.int 0, .int 0, .ref m1, .ref m2, .ref m3, .int 0, .ref m4, .ref m5, .ref m6, .int 0, .ref m7, .ref m8, .ref m9, .int 0, .ref m10, .int 0, .ref m11, .ref m12, .ref m13, .int 0, .ref m14, .int 0, .int 0, .int 0, .ref m15, .ref m16])), (m2, .inr (4, [.int 0, .ref td, .int 0]))] sz)) (va_Qi (fun (r : Int32) (u : va_W) => (r = 0 ∧ (k1 < 0) ∧ (u = [(m0, .inr (20, [.int 1, .int 0, .ref m1, .ref m2, .ref m3, .int 0, .ref m4, .ref m5, .ref m6, .int 0, .ref m7, .ref m8, .ref m9, .int 0, .ref m10, .int 0, .ref m11, .ref m12, .ref m13, .int 0, .ref m14, .int 0, .int 0, .int 0, .ref m15, .ref m16]))])) ∨ (r = 0 ∧ (¬ (k1 < 0)) ∧ (3 < k1) ∧ (u = [(m0, .inr (20, [.int 1, .int 0, .ref m1, .ref m2, .ref m3, .int 0, .ref m4, .ref m5, .ref m6, .int 0, .ref m7, .ref m8, .ref m9, .int 0, .ref m10, .int 0, .ref m11, .ref m12, .ref m13, .int 0, .ref m14, .int 0, .int 0, .int 0, .ref m15, .ref m16]))])) ∨ (r = 0 ∧ (¬ (k1 < 0)) ∧ (¬ (3 < k1)) ∧ (k2 < (-99)) ∧ (u = [(m0, .inr (20, [.int 1, .int 0, .ref m1, .ref m2, .ref m3, .int 0, .ref m4, .ref m5, .ref m6, .int 0, .ref m7, .ref m8, .ref m9, .int 0, .ref m10, .int 0, .ref m11, .ref m12, .ref m13, .int 0, .ref m14, .int 0, .int 0, .int 0, .ref m15, .ref m16]))])) ∨ (r = 0 ∧ (¬ (k1 < 0)) ∧ (¬ (3 < k1)) ∧ (¬ (k2 < (-99))) ∧ (99 < k2) ∧ (u = [(m0, .inr (20, [.int 1, .int 0, .ref m1, .ref m2, .ref m3, .int 0, .ref m4, .ref m5, .ref m6, .int 0, .ref m7, .ref m8, .ref m9, .int 0, .ref m10, .int 0, .ref m11, .ref m12, .ref m13, .int 0, .ref m14, .int 0, .int 0, .int 0, .ref m15, .ref m16]))])) ∨ (r = 0 ∧ (¬ (k1 < 0)) ∧ (¬ (3 < k1)) ∧ (¬ (k2 < (-99))) ∧ (¬ (99 < k2)) ∧ (k3 < 1) ∧ (u = [(m0, .inr (20, [.int 1, .int 0, .ref m1, .ref m2, .ref m3, .int 0, .ref m4, .ref m5, .ref m6, .int 0, .ref m7, .ref m8, .ref m9, .int 0, .ref m10, .int 0, .ref m11, .ref m12, .ref m13, .int 0, .ref m14, .int 0, .int 0, .int 0, .ref m15, .ref m16]))])) ∨ (r = 0 ∧ (¬ (k1 < 0)) ∧ (¬ (3 < k1)) ∧ (¬ (k2 < (-99))) ∧ (¬ (99 < k2)) ∧ (¬ (k3 < 1)) ∧ (3 < k3) ∧ (u = [(m0, .inr (20, [.int 1, .int 0, .ref m1, .ref m2, .ref m3, .int 0, .ref m4, .ref m5, .ref m6, .int 0, .ref m7, .ref m8, .ref m9, .int 0, .ref m10, .int 0, .ref m11, .ref m12, .ref m13, .int 0, .ref m14, .int 0, .int 0, .int 0, .ref m15, .ref m16]))])) ∨ (r = 0 ∧ (¬ (k1 < 0)) ∧ (¬ (3 < k1)) ∧ (¬ (k2 < (-99))) ∧ (¬ (99 < k2)) ∧ (¬ (k3 < 1)) ∧ (¬ (3 < k3)) ∧ (u = [(m0, .inr (20, [.int 0, .int 0, .ref m1, .ref m2, .ref m3, .int 0, .ref m4, .ref m5, .ref m6, .int 0, .ref m7, .ref m8, .ref m9, .int 0, .ref m10, .int 0, .ref m11, .ref m12, .ref m13, .int 0, .ref m14, .int 0, .int 0, .int 0, .ref m15, .ref m16]))]))) (wq_B D (va_A [(m0, .inr (20, [.int 0, .int 0, .ref m1, .ref m2, .ref m3, .int 0, .ref m4, .ref m5, .ref m6, .int 0, .ref m7, .ref m8, .ref m9, .int 0, .ref m10, .int 0, .ref m11, .ref m12, .ref m13, .int 0, .ref m14, .int 0, .int 0, .int 0, .ref m15, .ref m16])), (m2, .inr (4, [.int 0, .ref td, .int 0]))] sz)) (va_A [(m0, .inr (20, [.int 0, .int 0, .ref m1, .ref m2, .ref m3, .int 0, .ref m4, .ref m5, .ref m6, .int 0, .ref m7, .ref m8, .ref m9, .int 0, .ref m10, .int 0, .ref m11, .ref m12, .ref m13, .int 0, .ref m14, .int 0, .int 0, .int 0, .ref m15, .ref m16])), (m2, .inr (4, [.int 0, .ref td, .int 0]))] sz)) 4 25 (va_A [(m0, .inr (20, [.int 0, .int 0, .ref m1, .ref m2, .ref m3, .int 0, .ref m4, .ref m5, .ref m6, .int 0, .ref m7, .ref m8, .ref m9, .int 0, .ref m10, .int 0, .ref m11, .ref m12, .ref m13, .int 0, .ref m14, .int 0, .int 0, .int 0, .ref m15, .ref m16])), (m2, .inr (4, [.int 0, .ref td, .int 0]))] sz) := by
  refine Met.ofW (cc := cX16_addWeak) (maxL := 5) (ret := (some .int)) (by decide) rfl ?_
  intro p e s m args below meth c s₁ B hml hv
  obtain ⟨rfl, hsz, hP, hK, hD0, hE⟩ := hv
  have hx := B.exec
  have hb := B.bytes
  have hr := B.returns
  have hts := atoms_spec (ws := vs_k_X16_addWeak) B.pre
  have hown : s.vm.findClass RX16 = some m.cls := findClass_of_methodNamed B.named
  have hlocks := B.notSynchronized
  subst hsz
  have hD := hD0.self (sz := s.heap.size)
  generalize hAe : va_A [(m0, .inr (20, [.int 0, .int 0, .ref m1, .ref m2, .ref m3, .int 0, .ref m4, .ref m5, .ref m6, .int 0, .ref m7, .ref m8, .ref m9, .int 0, .ref m10, .int 0, .ref m11, .ref m12, .ref m13, .int 0, .ref m14, .int 0, .int 0, .int 0, .ref m15, .ref m16])), (m2, .inr (4, [.int 0, .ref td, .int 0]))] s.heap.size = A at hD hE ⊢
  have hA : ∀ q : Nat, s.heap.size ≤ q → A q := fun q h => by rw [← hAe]; exact Or.inr h
  have hS : va_S A s.heap s.heap [] := va_S.rf
  have hP : va_P D vwCl [(m0, .inr (20, [.int 0, .int 0, .ref m1, .ref m2, .ref m3, .int 0, .ref m4, .ref m5, .ref m6, .int 0, .ref m7, .ref m8, .ref m9, .int 0, .ref m10, .int 0, .ref m11, .ref m12, .ref m13, .int 0, .ref m14, .int 0, .int 0, .int 0, .ref m15, .ref m16])), (m2, .inr (4, [.int 0, .ref td, .int 0]))] s.heap := hP
  have hl := lv_entry ([.ref m0, .int k1, .int k2, .int k3]) (n := 5) (Nat.le_of_ble_eq_true rfl)
  rw [lg_entry_eq]
  generalize (lg_sl ([.ref m0, .int k1, .int k2, .int k3]) ++ List.replicate (5 - (lg_sl ([.ref m0, .int k1, .int k2, .int k3])).length) Slot.unset).toArray = ls at hl ⊢
  have hl : lv_has ls 5 [(0, .ref m0), (1, .int k1), (2, .int k2), (3, .int k3)] := hl
  refine lv_aload_n hx hb dX16_addWeak_0 rfl (lv_at hl 0 rfl) ?_
  refine lv_iconst (v := 0) hx hb dX16_addWeak_1 (by decide) ?_
  refine va_put (D := D) (ci := 20) (v := .int 0) (ty := tyX16 0) (C := RX16) (T := TX16) (N := 26) hx hb hts iv_k_X16_addWeak_X16 tyX16 tyX16_ok nmX16 hown hK hP hD hS 0 rfl rfl 0 (by decide) (hts (.fieldLink RX16 65 "AnswerFoldModel" "thrown" "I") (by decide +kernel)) (fun _ h9 => h9) rfl (by decide +kernel) rfl rfl (Nat.le_of_ble_eq_true rfl) dX16_addWeak_2 (fun H locs hP hD hS => ?_)
  have hP : va_P D vwCl [(m0, .inr (20, [.int 0, .int 0, .ref m1, .ref m2, .ref m3, .int 0, .ref m4, .ref m5, .ref m6, .int 0, .ref m7, .ref m8, .ref m9, .int 0, .ref m10, .int 0, .ref m11, .ref m12, .ref m13, .int 0, .ref m14, .int 0, .int 0, .int 0, .ref m15, .ref m16])), (m2, .inr (4, [.int 0, .ref td, .int 0]))] H := hP
  have hD : va_D A [(m0, .inr (20, [.int 0, .int 0, .ref m1, .ref m2, .ref m3, .int 0, .ref m4, .ref m5, .ref m6, .int 0, .ref m7, .ref m8, .ref m9, .int 0, .ref m10, .int 0, .ref m11, .ref m12, .ref m13, .int 0, .ref m14, .int 0, .int 0, .int 0, .ref m15, .ref m16])), (m2, .inr (4, [.int 0, .ref td, .int 0]))] := hD
  refine lv_aload_n hx hb dX16_addWeak_5 rfl (lv_at hl 0 rfl) ?_
  refine lv_iload_n hx hb dX16_addWeak_6 rfl (lv_at hl 1 rfl) ?_
  refine lv_iconst (v := 0) hx hb dX16_addWeak_7 (by decide) ?_
  refine lv_iconst (v := 3) hx hb dX16_addWeak_8 (by decide) ?_
  refine wq_i (wc := []) (wr := [(m0, .inr (20, [.int 0, .int 0, .ref m1, .ref m2, .ref m3, .int 0, .ref m4, .ref m5, .ref m6, .int 0, .ref m7, .ref m8, .ref m9, .int 0, .ref m10, .int 0, .ref m11, .ref m12, .ref m13, .int 0, .ref m14, .int 0, .int 0, .int 0, .ref m15, .ref m16])), (m2, .inr (4, [.int 0, .ref td, .int 0]))]) (va_runS (As := [.int k1, .int 0, .int 3]) (rest := [.ref m0]) ⟨hx, hb, hml, hown, hts⟩ (k_X16_in l D ty td mi H.size k1 0 3) (va_cwS 3 hts gv_k_X16_addWeak_0 rfl rfl rfl (by decide +kernel) ⟨(Nat.le_of_ble_eq_true rfl), (Nat.le_of_ble_eq_true rfl)⟩) (wq_preS hP hD hK hE hS hA [] rfl (by decide)) rfl rfl hl.1 rfl (lv_room (Nat.le_of_ble_eq_true rfl)) dX16_addWeak_9 ⟨(Nat.le_of_ble_eq_true rfl), (Nat.le_of_ble_eq_true rfl)⟩) hS hA hP hD [] [0, 1] rfl rfl (by decide) (by decide) (fun r u H locs hw hP hD hS => ?_)
  rcases hw with ⟨rfl, c_1, rfl⟩ | ⟨rfl, c_2, c_3, rfl⟩ | ⟨rfl, c_4, c_5, rfl⟩
  · have hP : va_P D vwCl [(m0, .inr (20, [.int 0, .int 0, .ref m1, .ref m2, .ref m3, .int 0, .ref m4, .ref m5, .ref m6, .int 0, .ref m7, .ref m8, .ref m9, .int 0, .ref m10, .int 0, .ref m11, .ref m12, .ref m13, .int 0, .ref m14, .int 0, .int 0, .int 0, .ref m15, .ref m16])), (m2, .inr (4, [.int 0, .ref td, .int 0]))] H := hP
    have hD : va_D A [(m0, .inr (20, [.int 0, .int 0, .ref m1, .ref m2, .ref m3, .int 0, .ref m4, .ref m5, .ref m6, .int 0, .ref m7, .ref m8, .ref m9, .int 0, .ref m10, .int 0, .ref m11, .ref m12, .ref m13, .int 0, .ref m14, .int 0, .int 0, .int 0, .ref m15, .ref m16])), (m2, .inr (4, [.int 0, .ref td, .int 0]))] := hD
    refine W.widen (k := 0) (n := 0) (Nat.le_of_ble_eq_true rfl) (Nat.le_of_ble_eq_true rfl) ?_
    refine lv_if_eq (tgt := 35) hx hb dX16_addWeak_12 (by decide) (fun _ => ?_) (fun c0 => absurd (by decide) c0)
    refine lv_iconst (v := 1) hx hb dX16_addWeak_35 (by decide) ?_
    refine lv_goto (tgt := 40) hx hb dX16_addWeak_36 (by decide) ?_
    refine lv_iconst (v := 1) hx hb dX16_addWeak_40 (by decide) ?_
    refine wq_i (wc := [(m0, .inr (20, [.int 0, .int 0, .ref m1, .ref m2, .ref m3, .int 0, .ref m4, .ref m5, .ref m6, .int 0, .ref m7, .ref m8, .ref m9, .int 0, .ref m10, .int 0, .ref m11, .ref m12, .ref m13, .int 0, .ref m14, .int 0, .int 0, .int 0, .ref m15, .ref m16]))]) (wr := [(m2, .inr (4, [.int 0, .ref td, .int 0]))]) (va_runV (As := [.int 1, .int 1]) (rest := []) ⟨hx, hb, hml, hown, hts⟩ (k_X16_fails_1_1 l D ty td mi H.size m0 m1 m2 m3 m4 m5 m6 m7 m8 m9 m10 m11 m12 m13 m14 m15 m16 0) (cwV 2 hts gv_k_X16_addWeak_1 rfl rfl rfl (by decide +kernel) ⟨(Nat.le_of_ble_eq_true rfl), (Nat.le_of_ble_eq_true rfl)⟩) (wq_preV hP hD hK hE hS hA [0] rfl (by decide) 0 20 rfl rfl) rfl rfl hl.1 rfl (lv_room (Nat.le_of_ble_eq_true rfl)) dX16_addWeak_41 ⟨(Nat.le_of_ble_eq_true rfl), (Nat.le_of_ble_eq_true rfl)⟩) hS hA hP hD [0] [1] rfl rfl (by decide) (by decide) (fun r u H locs hw hP hD hS => ?_)
    obtain ⟨rfl, rfl⟩ := hw
    have hP : va_P D vwCl [(m2, .inr (4, [.int 0, .ref td, .int 0])), (m0, .inr (20, [.int 1, .int 0, .ref m1, .ref m2, .ref m3, .int 0, .ref m4, .ref m5, .ref m6, .int 0, .ref m7, .ref m8, .ref m9, .int 0, .ref m10, .int 0, .ref m11, .ref m12, .ref m13, .int 0, .ref m14, .int 0, .int 0, .int 0, .ref m15, .ref m16]))] H := hP
    have hD : va_D A [(m2, .inr (4, [.int 0, .ref td, .int 0])), (m0, .inr (20, [.int 1, .int 0, .ref m1, .ref m2, .ref m3, .int 0, .ref m4, .ref m5, .ref m6, .int 0, .ref m7, .ref m8, .ref m9, .int 0, .ref m10, .int 0, .ref m11, .ref m12, .ref m13, .int 0, .ref m14, .int 0, .int 0, .int 0, .ref m15, .ref m16]))] := hD
    refine W.widen (k := 0) (n := 0) (Nat.le_of_ble_eq_true rfl) (Nat.le_of_ble_eq_true rfl) ?_
    refine lv_if_ne (tgt := 72) hx hb dX16_addWeak_44 (by decide) (fun _ => ?_) (fun c0 => absurd c0 (by decide))
    refine lv_iconst (v := 0) hx hb dX16_addWeak_72 (by decide) ?_
    have hP9 := hP.sub (ws' := [(m0, .inr (20, [.int 1, .int 0, .ref m1, .ref m2, .ref m3, .int 0, .ref m4, .ref m5, .ref m6, .int 0, .ref m7, .ref m8, .ref m9, .int 0, .ref m10, .int 0, .ref m11, .ref m12, .ref m13, .int 0, .ref m14, .int 0, .int 0, .int 0, .ref m15, .ref m16]))]) [1] rfl
    have hD9 := hD.sub (ws' := [(m0, .inr (20, [.int 1, .int 0, .ref m1, .ref m2, .ref m3, .int 0, .ref m4, .ref m5, .ref m6, .int 0, .ref m7, .ref m8, .ref m9, .int 0, .ref m10, .int 0, .ref m11, .ref m12, .ref m13, .int 0, .ref m14, .int 0, .int 0, .int 0, .ref m15, .ref m16]))]) [1] (by decide) rfl
    refine W.widen (k := 4) (n := 25) (Nat.le_of_ble_eq_true rfl) (Nat.le_of_ble_eq_true rfl) ?_
    exact W.iret (v := 0) hx hb hr (fun t ht hW => ⟨⟨0, [(m0, .inr (20, [.int 1, .int 0, .ref m1, .ref m2, .ref m3, .int 0, .ref m4, .ref m5, .ref m6, .int 0, .ref m7, .ref m8, .ref m9, .int 0, .ref m10, .int 0, .ref m11, .ref m12, .ref m13, .int 0, .ref m14, .int 0, .int 0, .int 0, .ref m15, .ref m16]))], rfl, (Or.inl ⟨rfl, c_1, rfl⟩), wq_B.of ht hP9 hD9⟩, hS.F ht⟩) hS.2.2 dX16_addWeak_73
  · have hP : va_P D vwCl [(m0, .inr (20, [.int 0, .int 0, .ref m1, .ref m2, .ref m3, .int 0, .ref m4, .ref m5, .ref m6, .int 0, .ref m7, .ref m8, .ref m9, .int 0, .ref m10, .int 0, .ref m11, .ref m12, .ref m13, .int 0, .ref m14, .int 0, .int 0, .int 0, .ref m15, .ref m16])), (m2, .inr (4, [.int 0, .ref td, .int 0]))] H := hP
    have hD : va_D A [(m0, .inr (20, [.int 0, .int 0, .ref m1, .ref m2, .ref m3, .int 0, .ref m4, .ref m5, .ref m6, .int 0, .ref m7, .ref m8, .ref m9, .int 0, .ref m10, .int 0, .ref m11, .ref m12, .ref m13, .int 0, .ref m14, .int 0, .int 0, .int 0, .ref m15, .ref m16])), (m2, .inr (4, [.int 0, .ref td, .int 0]))] := hD
    refine W.widen (k := 0) (n := 0) (Nat.le_of_ble_eq_true rfl) (Nat.le_of_ble_eq_true rfl) ?_
    refine lv_if_eq (tgt := 35) hx hb dX16_addWeak_12 (by decide) (fun _ => ?_) (fun c0 => absurd (by decide) c0)
    refine lv_iconst (v := 1) hx hb dX16_addWeak_35 (by decide) ?_
    refine lv_goto (tgt := 40) hx hb dX16_addWeak_36 (by decide) ?_
    refine lv_iconst (v := 1) hx hb dX16_addWeak_40 (by decide) ?_
    refine wq_i (wc := [(m0, .inr (20, [.int 0, .int 0, .ref m1, .ref m2, .ref m3, .int 0, .ref m4, .ref m5, .ref m6, .int 0, .ref m7, .ref m8, .ref m9, .int 0, .ref m10, .int 0, .ref m11, .ref m12, .ref m13, .int 0, .ref m14, .int 0, .int 0, .int 0, .ref m15, .ref m16]))]) (wr := [(m2, .inr (4, [.int 0, .ref td, .int 0]))]) (va_runV (As := [.int 1, .int 1]) (rest := []) ⟨hx, hb, hml, hown, hts⟩ (k_X16_fails_1_1 l D ty td mi H.size m0 m1 m2 m3 m4 m5 m6 m7 m8 m9 m10 m11 m12 m13 m14 m15 m16 0) (cwV 2 hts gv_k_X16_addWeak_2 rfl rfl rfl (by decide +kernel) ⟨(Nat.le_of_ble_eq_true rfl), (Nat.le_of_ble_eq_true rfl)⟩) (wq_preV hP hD hK hE hS hA [0] rfl (by decide) 0 20 rfl rfl) rfl rfl hl.1 rfl (lv_room (Nat.le_of_ble_eq_true rfl)) dX16_addWeak_41 ⟨(Nat.le_of_ble_eq_true rfl), (Nat.le_of_ble_eq_true rfl)⟩) hS hA hP hD [0] [1] rfl rfl (by decide) (by decide) (fun r u H locs hw hP hD hS => ?_)
    obtain ⟨rfl, rfl⟩ := hw
    have hP : va_P D vwCl [(m2, .inr (4, [.int 0, .ref td, .int 0])), (m0, .inr (20, [.int 1, .int 0, .ref m1, .ref m2, .ref m3, .int 0, .ref m4, .ref m5, .ref m6, .int 0, .ref m7, .ref m8, .ref m9, .int 0, .ref m10, .int 0, .ref m11, .ref m12, .ref m13, .int 0, .ref m14, .int 0, .int 0, .int 0, .ref m15, .ref m16]))] H := hP
    have hD : va_D A [(m2, .inr (4, [.int 0, .ref td, .int 0])), (m0, .inr (20, [.int 1, .int 0, .ref m1, .ref m2, .ref m3, .int 0, .ref m4, .ref m5, .ref m6, .int 0, .ref m7, .ref m8, .ref m9, .int 0, .ref m10, .int 0, .ref m11, .ref m12, .ref m13, .int 0, .ref m14, .int 0, .int 0, .int 0, .ref m15, .ref m16]))] := hD
    refine W.widen (k := 0) (n := 0) (Nat.le_of_ble_eq_true rfl) (Nat.le_of_ble_eq_true rfl) ?_
    refine lv_if_ne (tgt := 72) hx hb dX16_addWeak_44 (by decide) (fun _ => ?_) (fun c0 => absurd c0 (by decide))
    refine lv_iconst (v := 0) hx hb dX16_addWeak_72 (by decide) ?_
    have hP9 := hP.sub (ws' := [(m0, .inr (20, [.int 1, .int 0, .ref m1, .ref m2, .ref m3, .int 0, .ref m4, .ref m5, .ref m6, .int 0, .ref m7, .ref m8, .ref m9, .int 0, .ref m10, .int 0, .ref m11, .ref m12, .ref m13, .int 0, .ref m14, .int 0, .int 0, .int 0, .ref m15, .ref m16]))]) [1] rfl
    have hD9 := hD.sub (ws' := [(m0, .inr (20, [.int 1, .int 0, .ref m1, .ref m2, .ref m3, .int 0, .ref m4, .ref m5, .ref m6, .int 0, .ref m7, .ref m8, .ref m9, .int 0, .ref m10, .int 0, .ref m11, .ref m12, .ref m13, .int 0, .ref m14, .int 0, .int 0, .int 0, .ref m15, .ref m16]))]) [1] (by decide) rfl
    refine W.widen (k := 4) (n := 25) (Nat.le_of_ble_eq_true rfl) (Nat.le_of_ble_eq_true rfl) ?_
    exact W.iret (v := 0) hx hb hr (fun t ht hW => ⟨⟨0, [(m0, .inr (20, [.int 1, .int 0, .ref m1, .ref m2, .ref m3, .int 0, .ref m4, .ref m5, .ref m6, .int 0, .ref m7, .ref m8, .ref m9, .int 0, .ref m10, .int 0, .ref m11, .ref m12, .ref m13, .int 0, .ref m14, .int 0, .int 0, .int 0, .ref m15, .ref m16]))], rfl, (Or.inr (Or.inl ⟨rfl, c_2, c_3, rfl⟩)), wq_B.of ht hP9 hD9⟩, hS.F ht⟩) hS.2.2 dX16_addWeak_73
  · have hP : va_P D vwCl [(m0, .inr (20, [.int 0, .int 0, .ref m1, .ref m2, .ref m3, .int 0, .ref m4, .ref m5, .ref m6, .int 0, .ref m7, .ref m8, .ref m9, .int 0, .ref m10, .int 0, .ref m11, .ref m12, .ref m13, .int 0, .ref m14, .int 0, .int 0, .int 0, .ref m15, .ref m16])), (m2, .inr (4, [.int 0, .ref td, .int 0]))] H := hP
    have hD : va_D A [(m0, .inr (20, [.int 0, .int 0, .ref m1, .ref m2, .ref m3, .int 0, .ref m4, .ref m5, .ref m6, .int 0, .ref m7, .ref m8, .ref m9, .int 0, .ref m10, .int 0, .ref m11, .ref m12, .ref m13, .int 0, .ref m14, .int 0, .int 0, .int 0, .ref m15, .ref m16])), (m2, .inr (4, [.int 0, .ref td, .int 0]))] := hD
    refine W.widen (k := 0) (n := 0) (Nat.le_of_ble_eq_true rfl) (Nat.le_of_ble_eq_true rfl) ?_
    refine lv_if_eq (tgt := 35) hx hb dX16_addWeak_12 (by decide) (fun c0 => absurd c0 (by decide)) (fun _ => ?_)
    refine lv_iload_n hx hb dX16_addWeak_15 rfl (lv_at hl 2 rfl) ?_
    refine lv_bipush (v := (-99)) hx hb dX16_addWeak_16 (by decide) ?_
    refine lv_bipush (v := 99) hx hb dX16_addWeak_18 (by decide) ?_
    refine wq_i (wc := []) (wr := [(m0, .inr (20, [.int 0, .int 0, .ref m1, .ref m2, .ref m3, .int 0, .ref m4, .ref m5, .ref m6, .int 0, .ref m7, .ref m8, .ref m9, .int 0, .ref m10, .int 0, .ref m11, .ref m12, .ref m13, .int 0, .ref m14, .int 0, .int 0, .int 0, .ref m15, .ref m16])), (m2, .inr (4, [.int 0, .ref td, .int 0]))]) (va_runS (As := [.int k2, .int (-99), .int 99]) (rest := [.ref m0]) ⟨hx, hb, hml, hown, hts⟩ (k_X16_in l D ty td mi H.size k2 (-99) 99) (va_cwS 3 hts gv_k_X16_addWeak_3 rfl rfl rfl (by decide +kernel) ⟨(Nat.le_of_ble_eq_true rfl), (Nat.le_of_ble_eq_true rfl)⟩) (wq_preS hP hD hK hE hS hA [] rfl (by decide)) rfl rfl hl.1 rfl (lv_room (Nat.le_of_ble_eq_true rfl)) dX16_addWeak_20 ⟨(Nat.le_of_ble_eq_true rfl), (Nat.le_of_ble_eq_true rfl)⟩) hS hA hP hD [] [0, 1] rfl rfl (by decide) (by decide) (fun r u H locs hw hP hD hS => ?_)
    rcases hw with ⟨rfl, c_6, rfl⟩ | ⟨rfl, c_7, c_8, rfl⟩ | ⟨rfl, c_9, c_10, rfl⟩
    · have hP : va_P D vwCl [(m0, .inr (20, [.int 0, .int 0, .ref m1, .ref m2, .ref m3, .int 0, .ref m4, .ref m5, .ref m6, .int 0, .ref m7, .ref m8, .ref m9, .int 0, .ref m10, .int 0, .ref m11, .ref m12, .ref m13, .int 0, .ref m14, .int 0, .int 0, .int 0, .ref m15, .ref m16])), (m2, .inr (4, [.int 0, .ref td, .int 0]))] H := hP
      have hD : va_D A [(m0, .inr (20, [.int 0, .int 0, .ref m1, .ref m2, .ref m3, .int 0, .ref m4, .ref m5, .ref m6, .int 0, .ref m7, .ref m8, .ref m9, .int 0, .ref m10, .int 0, .ref m11, .ref m12, .ref m13, .int 0, .ref m14, .int 0, .int 0, .int 0, .ref m15, .ref m16])), (m2, .inr (4, [.int 0, .ref td, .int 0]))] := hD
      refine W.widen (k := 0) (n := 0) (Nat.le_of_ble_eq_true rfl) (Nat.le_of_ble_eq_true rfl) ?_
      refine lv_if_eq (tgt := 35) hx hb dX16_addWeak_23 (by decide) (fun _ => ?_) (fun c0 => absurd (by decide) c0)
      refine lv_iconst (v := 1) hx hb dX16_addWeak_35 (by decide) ?_
      refine lv_goto (tgt := 40) hx hb dX16_addWeak_36 (by decide) ?_
      refine lv_iconst (v := 1) hx hb dX16_addWeak_40 (by decide) ?_
      refine wq_i (wc := [(m0, .inr (20, [.int 0, .int 0, .ref m1, .ref m2, .ref m3, .int 0, .ref m4, .ref m5, .ref m6, .int 0, .ref m7, .ref m8, .ref m9, .int 0, .ref m10, .int 0, .ref m11, .ref m12, .ref m13, .int 0, .ref m14, .int 0, .int 0, .int 0, .ref m15, .ref m16]))]) (wr := [(m2, .inr (4, [.int 0, .ref td, .int 0]))]) (va_runV (As := [.int 1, .int 1]) (rest := []) ⟨hx, hb, hml, hown, hts⟩ (k_X16_fails_1_1 l D ty td mi H.size m0 m1 m2 m3 m4 m5 m6 m7 m8 m9 m10 m11 m12 m13 m14 m15 m16 0) (cwV 2 hts gv_k_X16_addWeak_4 rfl rfl rfl (by decide +kernel) ⟨(Nat.le_of_ble_eq_true rfl), (Nat.le_of_ble_eq_true rfl)⟩) (wq_preV hP hD hK hE hS hA [0] rfl (by decide) 0 20 rfl rfl) rfl rfl hl.1 rfl (lv_room (Nat.le_of_ble_eq_true rfl)) dX16_addWeak_41 ⟨(Nat.le_of_ble_eq_true rfl), (Nat.le_of_ble_eq_true rfl)⟩) hS hA hP hD [0] [1] rfl rfl (by decide) (by decide) (fun r u H locs hw hP hD hS => ?_)
      obtain ⟨rfl, rfl⟩ := hw
      have hP : va_P D vwCl [(m2, .inr (4, [.int 0, .ref td, .int 0])), (m0, .inr (20, [.int 1, .int 0, .ref m1, .ref m2, .ref m3, .int 0, .ref m4, .ref m5, .ref m6, .int 0, .ref m7, .ref m8, .ref m9, .int 0, .ref m10, .int 0, .ref m11, .ref m12, .ref m13, .int 0, .ref m14, .int 0, .int 0, .int 0, .ref m15, .ref m16]))] H := hP
      have hD : va_D A [(m2, .inr (4, [.int 0, .ref td, .int 0])), (m0, .inr (20, [.int 1, .int 0, .ref m1, .ref m2, .ref m3, .int 0, .ref m4, .ref m5, .ref m6, .int 0, .ref m7, .ref m8, .ref m9, .int 0, .ref m10, .int 0, .ref m11, .ref m12, .ref m13, .int 0, .ref m14, .int 0, .int 0, .int 0, .ref m15, .ref m16]))] := hD
      refine W.widen (k := 0) (n := 0) (Nat.le_of_ble_eq_true rfl) (Nat.le_of_ble_eq_true rfl) ?_
      refine lv_if_ne (tgt := 72) hx hb dX16_addWeak_44 (by decide) (fun _ => ?_) (fun c0 => absurd c0 (by decide))
      refine lv_iconst (v := 0) hx hb dX16_addWeak_72 (by decide) ?_
      have hP9 := hP.sub (ws' := [(m0, .inr (20, [.int 1, .int 0, .ref m1, .ref m2, .ref m3, .int 0, .ref m4, .ref m5, .ref m6, .int 0, .ref m7, .ref m8, .ref m9, .int 0, .ref m10, .int 0, .ref m11, .ref m12, .ref m13, .int 0, .ref m14, .int 0, .int 0, .int 0, .ref m15, .ref m16]))]) [1] rfl
      have hD9 := hD.sub (ws' := [(m0, .inr (20, [.int 1, .int 0, .ref m1, .ref m2, .ref m3, .int 0, .ref m4, .ref m5, .ref m6, .int 0, .ref m7, .ref m8, .ref m9, .int 0, .ref m10, .int 0, .ref m11, .ref m12, .ref m13, .int 0, .ref m14, .int 0, .int 0, .int 0, .ref m15, .ref m16]))]) [1] (by decide) rfl
      refine W.widen (k := 4) (n := 25) (Nat.le_of_ble_eq_true rfl) (Nat.le_of_ble_eq_true rfl) ?_
      exact W.iret (v := 0) hx hb hr (fun t ht hW => ⟨⟨0, [(m0, .inr (20, [.int 1, .int 0, .ref m1, .ref m2, .ref m3, .int 0, .ref m4, .ref m5, .ref m6, .int 0, .ref m7, .ref m8, .ref m9, .int 0, .ref m10, .int 0, .ref m11, .ref m12, .ref m13, .int 0, .ref m14, .int 0, .int 0, .int 0, .ref m15, .ref m16]))], rfl, (Or.inr (Or.inr (Or.inl ⟨rfl, c_4, c_5, c_6, rfl⟩))), wq_B.of ht hP9 hD9⟩, hS.F ht⟩) hS.2.2 dX16_addWeak_73
    · have hP : va_P D vwCl [(m0, .inr (20, [.int 0, .int 0, .ref m1, .ref m2, .ref m3, .int 0, .ref m4, .ref m5, .ref m6, .int 0, .ref m7, .ref m8, .ref m9, .int 0, .ref m10, .int 0, .ref m11, .ref m12, .ref m13, .int 0, .ref m14, .int 0, .int 0, .int 0, .ref m15, .ref m16])), (m2, .inr (4, [.int 0, .ref td, .int 0]))] H := hP
      have hD : va_D A [(m0, .inr (20, [.int 0, .int 0, .ref m1, .ref m2, .ref m3, .int 0, .ref m4, .ref m5, .ref m6, .int 0, .ref m7, .ref m8, .ref m9, .int 0, .ref m10, .int 0, .ref m11, .ref m12, .ref m13, .int 0, .ref m14, .int 0, .int 0, .int 0, .ref m15, .ref m16])), (m2, .inr (4, [.int 0, .ref td, .int 0]))] := hD
      refine W.widen (k := 0) (n := 0) (Nat.le_of_ble_eq_true rfl) (Nat.le_of_ble_eq_true rfl) ?_
      refine lv_if_eq (tgt := 35) hx hb dX16_addWeak_23 (by decide) (fun _ => ?_) (fun c0 => absurd (by decide) c0)
      refine lv_iconst (v := 1) hx hb dX16_addWeak_35 (by decide) ?_
      refine lv_goto (tgt := 40) hx hb dX16_addWeak_36 (by decide) ?_
      refine lv_iconst (v := 1) hx hb dX16_addWeak_40 (by decide) ?_
      refine wq_i (wc := [(m0, .inr (20, [.int 0, .int 0, .ref m1, .ref m2, .ref m3, .int 0, .ref m4, .ref m5, .ref m6, .int 0, .ref m7, .ref m8, .ref m9, .int 0, .ref m10, .int 0, .ref m11, .ref m12, .ref m13, .int 0, .ref m14, .int 0, .int 0, .int 0, .ref m15, .ref m16]))]) (wr := [(m2, .inr (4, [.int 0, .ref td, .int 0]))]) (va_runV (As := [.int 1, .int 1]) (rest := []) ⟨hx, hb, hml, hown, hts⟩ (k_X16_fails_1_1 l D ty td mi H.size m0 m1 m2 m3 m4 m5 m6 m7 m8 m9 m10 m11 m12 m13 m14 m15 m16 0) (cwV 2 hts gv_k_X16_addWeak_5 rfl rfl rfl (by decide +kernel) ⟨(Nat.le_of_ble_eq_true rfl), (Nat.le_of_ble_eq_true rfl)⟩) (wq_preV hP hD hK hE hS hA [0] rfl (by decide) 0 20 rfl rfl) rfl rfl hl.1 rfl (lv_room (Nat.le_of_ble_eq_true rfl)) dX16_addWeak_41 ⟨(Nat.le_of_ble_eq_true rfl), (Nat.le_of_ble_eq_true rfl)⟩) hS hA hP hD [0] [1] rfl rfl (by decide) (by decide) (fun r u H locs hw hP hD hS => ?_)
      obtain ⟨rfl, rfl⟩ := hw
      have hP : va_P D vwCl [(m2, .inr (4, [.int 0, .ref td, .int 0])), (m0, .inr (20, [.int 1, .int 0, .ref m1, .ref m2, .ref m3, .int 0, .ref m4, .ref m5, .ref m6, .int 0, .ref m7, .ref m8, .ref m9, .int 0, .ref m10, .int 0, .ref m11, .ref m12, .ref m13, .int 0, .ref m14, .int 0, .int 0, .int 0, .ref m15, .ref m16]))] H := hP
      have hD : va_D A [(m2, .inr (4, [.int 0, .ref td, .int 0])), (m0, .inr (20, [.int 1, .int 0, .ref m1, .ref m2, .ref m3, .int 0, .ref m4, .ref m5, .ref m6, .int 0, .ref m7, .ref m8, .ref m9, .int 0, .ref m10, .int 0, .ref m11, .ref m12, .ref m13, .int 0, .ref m14, .int 0, .int 0, .int 0, .ref m15, .ref m16]))] := hD
      refine W.widen (k := 0) (n := 0) (Nat.le_of_ble_eq_true rfl) (Nat.le_of_ble_eq_true rfl) ?_
      refine lv_if_ne (tgt := 72) hx hb dX16_addWeak_44 (by decide) (fun _ => ?_) (fun c0 => absurd c0 (by decide))
      refine lv_iconst (v := 0) hx hb dX16_addWeak_72 (by decide) ?_
      have hP9 := hP.sub (ws' := [(m0, .inr (20, [.int 1, .int 0, .ref m1, .ref m2, .ref m3, .int 0, .ref m4, .ref m5, .ref m6, .int 0, .ref m7, .ref m8, .ref m9, .int 0, .ref m10, .int 0, .ref m11, .ref m12, .ref m13, .int 0, .ref m14, .int 0, .int 0, .int 0, .ref m15, .ref m16]))]) [1] rfl
      have hD9 := hD.sub (ws' := [(m0, .inr (20, [.int 1, .int 0, .ref m1, .ref m2, .ref m3, .int 0, .ref m4, .ref m5, .ref m6, .int 0, .ref m7, .ref m8, .ref m9, .int 0, .ref m10, .int 0, .ref m11, .ref m12, .ref m13, .int 0, .ref m14, .int 0, .int 0, .int 0, .ref m15, .ref m16]))]) [1] (by decide) rfl
      refine W.widen (k := 4) (n := 25) (Nat.le_of_ble_eq_true rfl) (Nat.le_of_ble_eq_true rfl) ?_
      exact W.iret (v := 0) hx hb hr (fun t ht hW => ⟨⟨0, [(m0, .inr (20, [.int 1, .int 0, .ref m1, .ref m2, .ref m3, .int 0, .ref m4, .ref m5, .ref m6, .int 0, .ref m7, .ref m8, .ref m9, .int 0, .ref m10, .int 0, .ref m11, .ref m12, .ref m13, .int 0, .ref m14, .int 0, .int 0, .int 0, .ref m15, .ref m16]))], rfl, (Or.inr (Or.inr (Or.inr (Or.inl ⟨rfl, c_4, c_5, c_7, c_8, rfl⟩)))), wq_B.of ht hP9 hD9⟩, hS.F ht⟩) hS.2.2 dX16_addWeak_73
    · have hP : va_P D vwCl [(m0, .inr (20, [.int 0, .int 0, .ref m1, .ref m2, .ref m3, .int 0, .ref m4, .ref m5, .ref m6, .int 0, .ref m7, .ref m8, .ref m9, .int 0, .ref m10, .int 0, .ref m11, .ref m12, .ref m13, .int 0, .ref m14, .int 0, .int 0, .int 0, .ref m15, .ref m16])), (m2, .inr (4, [.int 0, .ref td, .int 0]))] H := hP
      have hD : va_D A [(m0, .inr (20, [.int 0, .int 0, .ref m1, .ref m2, .ref m3, .int 0, .ref m4, .ref m5, .ref m6, .int 0, .ref m7, .ref m8, .ref m9, .int 0, .ref m10, .int 0, .ref m11, .ref m12, .ref m13, .int 0, .ref m14, .int 0, .int 0, .int 0, .ref m15, .ref m16])), (m2, .inr (4, [.int 0, .ref td, .int 0]))] := hD
      refine W.widen (k := 0) (n := 0) (Nat.le_of_ble_eq_true rfl) (Nat.le_of_ble_eq_true rfl) ?_
      refine lv_if_eq (tgt := 35) hx hb dX16_addWeak_23 (by decide) (fun c0 => absurd c0 (by decide)) (fun _ => ?_)
      refine lv_iload_n hx hb dX16_addWeak_26 rfl (lv_at hl 3 rfl) ?_
      refine lv_iconst (v := 1) hx hb dX16_addWeak_27 (by decide) ?_
      refine lv_iconst (v := 3) hx hb dX16_addWeak_28 (by decide) ?_
      refine wq_i (wc := []) (wr := [(m0, .inr (20, [.int 0, .int 0, .ref m1, .ref m2, .ref m3, .int 0, .ref m4, .ref m5, .ref m6, .int 0, .ref m7, .ref m8, .ref m9, .int 0, .ref m10, .int 0, .ref m11, .ref m12, .ref m13, .int 0, .ref m14, .int 0, .int 0, .int 0, .ref m15, .ref m16])), (m2, .inr (4, [.int 0, .ref td, .int 0]))]) (va_runS (As := [.int k3, .int 1, .int 3]) (rest := [.ref m0]) ⟨hx, hb, hml, hown, hts⟩ (k_X16_in l D ty td mi H.size k3 1 3) (va_cwS 3 hts gv_k_X16_addWeak_6 rfl rfl rfl (by decide +kernel) ⟨(Nat.le_of_ble_eq_true rfl), (Nat.le_of_ble_eq_true rfl)⟩) (wq_preS hP hD hK hE hS hA [] rfl (by decide)) rfl rfl hl.1 rfl (lv_room (Nat.le_of_ble_eq_true rfl)) dX16_addWeak_29 ⟨(Nat.le_of_ble_eq_true rfl), (Nat.le_of_ble_eq_true rfl)⟩) hS hA hP hD [] [0, 1] rfl rfl (by decide) (by decide) (fun r u H locs hw hP hD hS => ?_)
      rcases hw with ⟨rfl, c_11, rfl⟩ | ⟨rfl, c_12, c_13, rfl⟩ | ⟨rfl, c_14, c_15, rfl⟩
      · have hP : va_P D vwCl [(m0, .inr (20, [.int 0, .int 0, .ref m1, .ref m2, .ref m3, .int 0, .ref m4, .ref m5, .ref m6, .int 0, .ref m7, .ref m8, .ref m9, .int 0, .ref m10, .int 0, .ref m11, .ref m12, .ref m13, .int 0, .ref m14, .int 0, .int 0, .int 0, .ref m15, .ref m16])), (m2, .inr (4, [.int 0, .ref td, .int 0]))] H := hP
        have hD : va_D A [(m0, .inr (20, [.int 0, .int 0, .ref m1, .ref m2, .ref m3, .int 0, .ref m4, .ref m5, .ref m6, .int 0, .ref m7, .ref m8, .ref m9, .int 0, .ref m10, .int 0, .ref m11, .ref m12, .ref m13, .int 0, .ref m14, .int 0, .int 0, .int 0, .ref m15, .ref m16])), (m2, .inr (4, [.int 0, .ref td, .int 0]))] := hD
        refine W.widen (k := 0) (n := 0) (Nat.le_of_ble_eq_true rfl) (Nat.le_of_ble_eq_true rfl) ?_
        refine lv_if_ne (tgt := 39) hx hb dX16_addWeak_32 (by decide) (fun c0 => absurd (by decide) c0) (fun _ => ?_)
        refine lv_iconst (v := 1) hx hb dX16_addWeak_35 (by decide) ?_
        refine lv_goto (tgt := 40) hx hb dX16_addWeak_36 (by decide) ?_
        refine lv_iconst (v := 1) hx hb dX16_addWeak_40 (by decide) ?_
        refine wq_i (wc := [(m0, .inr (20, [.int 0, .int 0, .ref m1, .ref m2, .ref m3, .int 0, .ref m4, .ref m5, .ref m6, .int 0, .ref m7, .ref m8, .ref m9, .int 0, .ref m10, .int 0, .ref m11, .ref m12, .ref m13, .int 0, .ref m14, .int 0, .int 0, .int 0, .ref m15, .ref m16]))]) (wr := [(m2, .inr (4, [.int 0, .ref td, .int 0]))]) (va_runV (As := [.int 1, .int 1]) (rest := []) ⟨hx, hb, hml, hown, hts⟩ (k_X16_fails_1_1 l D ty td mi H.size m0 m1 m2 m3 m4 m5 m6 m7 m8 m9 m10 m11 m12 m13 m14 m15 m16 0) (cwV 2 hts gv_k_X16_addWeak_7 rfl rfl rfl (by decide +kernel) ⟨(Nat.le_of_ble_eq_true rfl), (Nat.le_of_ble_eq_true rfl)⟩) (wq_preV hP hD hK hE hS hA [0] rfl (by decide) 0 20 rfl rfl) rfl rfl hl.1 rfl (lv_room (Nat.le_of_ble_eq_true rfl)) dX16_addWeak_41 ⟨(Nat.le_of_ble_eq_true rfl), (Nat.le_of_ble_eq_true rfl)⟩) hS hA hP hD [0] [1] rfl rfl (by decide) (by decide) (fun r u H locs hw hP hD hS => ?_)
        obtain ⟨rfl, rfl⟩ := hw
        have hP : va_P D vwCl [(m2, .inr (4, [.int 0, .ref td, .int 0])), (m0, .inr (20, [.int 1, .int 0, .ref m1, .ref m2, .ref m3, .int 0, .ref m4, .ref m5, .ref m6, .int 0, .ref m7, .ref m8, .ref m9, .int 0, .ref m10, .int 0, .ref m11, .ref m12, .ref m13, .int 0, .ref m14, .int 0, .int 0, .int 0, .ref m15, .ref m16]))] H := hP
        have hD : va_D A [(m2, .inr (4, [.int 0, .ref td, .int 0])), (m0, .inr (20, [.int 1, .int 0, .ref m1, .ref m2, .ref m3, .int 0, .ref m4, .ref m5, .ref m6, .int 0, .ref m7, .ref m8, .ref m9, .int 0, .ref m10, .int 0, .ref m11, .ref m12, .ref m13, .int 0, .ref m14, .int 0, .int 0, .int 0, .ref m15, .ref m16]))] := hD
        refine W.widen (k := 0) (n := 0) (Nat.le_of_ble_eq_true rfl) (Nat.le_of_ble_eq_true rfl) ?_
        refine lv_if_ne (tgt := 72) hx hb dX16_addWeak_44 (by decide) (fun _ => ?_) (fun c0 => absurd c0 (by decide))
        refine lv_iconst (v := 0) hx hb dX16_addWeak_72 (by decide) ?_
        have hP9 := hP.sub (ws' := [(m0, .inr (20, [.int 1, .int 0, .ref m1, .ref m2, .ref m3, .int 0, .ref m4, .ref m5, .ref m6, .int 0, .ref m7, .ref m8, .ref m9, .int 0, .ref m10, .int 0, .ref m11, .ref m12, .ref m13, .int 0, .ref m14, .int 0, .int 0, .int 0, .ref m15, .ref m16]))]) [1] rfl
        have hD9 := hD.sub (ws' := [(m0, .inr (20, [.int 1, .int 0, .ref m1, .ref m2, .ref m3, .int 0, .ref m4, .ref m5, .ref m6, .int 0, .ref m7, .ref m8, .ref m9, .int 0, .ref m10, .int 0, .ref m11, .ref m12, .ref m13, .int 0, .ref m14, .int 0, .int 0, .int 0, .ref m15, .ref m16]))]) [1] (by decide) rfl
        refine W.widen (k := 4) (n := 25) (Nat.le_of_ble_eq_true rfl) (Nat.le_of_ble_eq_true rfl) ?_
        exact W.iret (v := 0) hx hb hr (fun t ht hW => ⟨⟨0, [(m0, .inr (20, [.int 1, .int 0, .ref m1, .ref m2, .ref m3, .int 0, .ref m4, .ref m5, .ref m6, .int 0, .ref m7, .ref m8, .ref m9, .int 0, .ref m10, .int 0, .ref m11, .ref m12, .ref m13, .int 0, .ref m14, .int 0, .int 0, .int 0, .ref m15, .ref m16]))], rfl, (Or.inr (Or.inr (Or.inr (Or.inr (Or.inl ⟨rfl, c_4, c_5, c_9, c_10, c_11, rfl⟩))))), wq_B.of ht hP9 hD9⟩, hS.F ht⟩) hS.2.2 dX16_addWeak_73
      · have hP : va_P D vwCl [(m0, .inr (20, [.int 0, .int 0, .ref m1, .ref m2, .ref m3, .int 0, .ref m4, .ref m5, .ref m6, .int 0, .ref m7, .ref m8, .ref m9, .int 0, .ref m10, .int 0, .ref m11, .ref m12, .ref m13, .int 0, .ref m14, .int 0, .int 0, .int 0, .ref m15, .ref m16])), (m2, .inr (4, [.int 0, .ref td, .int 0]))] H := hP
        have hD : va_D A [(m0, .inr (20, [.int 0, .int 0, .ref m1, .ref m2, .ref m3, .int 0, .ref m4, .ref m5, .ref m6, .int 0, .ref m7, .ref m8, .ref m9, .int 0, .ref m10, .int 0, .ref m11, .ref m12, .ref m13, .int 0, .ref m14, .int 0, .int 0, .int 0, .ref m15, .ref m16])), (m2, .inr (4, [.int 0, .ref td, .int 0]))] := hD
        refine W.widen (k := 0) (n := 0) (Nat.le_of_ble_eq_true rfl) (Nat.le_of_ble_eq_true rfl) ?_
        refine lv_if_ne (tgt := 39) hx hb dX16_addWeak_32 (by decide) (fun c0 => absurd (by decide) c0) (fun _ => ?_)
        refine lv_iconst (v := 1) hx hb dX16_addWeak_35 (by decide) ?_
        refine lv_goto (tgt := 40) hx hb dX16_addWeak_36 (by decide) ?_
        refine lv_iconst (v := 1) hx hb dX16_addWeak_40 (by decide) ?_
        refine wq_i (wc := [(m0, .inr (20, [.int 0, .int 0, .ref m1, .ref m2, .ref m3, .int 0, .ref m4, .ref m5, .ref m6, .int 0, .ref m7, .ref m8, .ref m9, .int 0, .ref m10, .int 0, .ref m11, .ref m12, .ref m13, .int 0, .ref m14, .int 0, .int 0, .int 0, .ref m15, .ref m16]))]) (wr := [(m2, .inr (4, [.int 0, .ref td, .int 0]))]) (va_runV (As := [.int 1, .int 1]) (rest := []) ⟨hx, hb, hml, hown, hts⟩ (k_X16_fails_1_1 l D ty td mi H.size m0 m1 m2 m3 m4 m5 m6 m7 m8 m9 m10 m11 m12 m13 m14 m15 m16 0) (cwV 2 hts gv_k_X16_addWeak_8 rfl rfl rfl (by decide +kernel) ⟨(Nat.le_of_ble_eq_true rfl), (Nat.le_of_ble_eq_true rfl)⟩) (wq_preV hP hD hK hE hS hA [0] rfl (by decide) 0 20 rfl rfl) rfl rfl hl.1 rfl (lv_room (Nat.le_of_ble_eq_true rfl)) dX16_addWeak_41 ⟨(Nat.le_of_ble_eq_true rfl), (Nat.le_of_ble_eq_true rfl)⟩) hS hA hP hD [0] [1] rfl rfl (by decide) (by decide) (fun r u H locs hw hP hD hS => ?_)
        obtain ⟨rfl, rfl⟩ := hw
        have hP : va_P D vwCl [(m2, .inr (4, [.int 0, .ref td, .int 0])), (m0, .inr (20, [.int 1, .int 0, .ref m1, .ref m2, .ref m3, .int 0, .ref m4, .ref m5, .ref m6, .int 0, .ref m7, .ref m8, .ref m9, .int 0, .ref m10, .int 0, .ref m11, .ref m12, .ref m13, .int 0, .ref m14, .int 0, .int 0, .int 0, .ref m15, .ref m16]))] H := hP
        have hD : va_D A [(m2, .inr (4, [.int 0, .ref td, .int 0])), (m0, .inr (20, [.int 1, .int 0, .ref m1, .ref m2, .ref m3, .int 0, .ref m4, .ref m5, .ref m6, .int 0, .ref m7, .ref m8, .ref m9, .int 0, .ref m10, .int 0, .ref m11, .ref m12, .ref m13, .int 0, .ref m14, .int 0, .int 0, .int 0, .ref m15, .ref m16]))] := hD
        refine W.widen (k := 0) (n := 0) (Nat.le_of_ble_eq_true rfl) (Nat.le_of_ble_eq_true rfl) ?_
        refine lv_if_ne (tgt := 72) hx hb dX16_addWeak_44 (by decide) (fun _ => ?_) (fun c0 => absurd c0 (by decide))
        refine lv_iconst (v := 0) hx hb dX16_addWeak_72 (by decide) ?_
        have hP9 := hP.sub (ws' := [(m0, .inr (20, [.int 1, .int 0, .ref m1, .ref m2, .ref m3, .int 0, .ref m4, .ref m5, .ref m6, .int 0, .ref m7, .ref m8, .ref m9, .int 0, .ref m10, .int 0, .ref m11, .ref m12, .ref m13, .int 0, .ref m14, .int 0, .int 0, .int 0, .ref m15, .ref m16]))]) [1] rfl
        have hD9 := hD.sub (ws' := [(m0, .inr (20, [.int 1, .int 0, .ref m1, .ref m2, .ref m3, .int 0, .ref m4, .ref m5, .ref m6, .int 0, .ref m7, .ref m8, .ref m9, .int 0, .ref m10, .int 0, .ref m11, .ref m12, .ref m13, .int 0, .ref m14, .int 0, .int 0, .int 0, .ref m15, .ref m16]))]) [1] (by decide) rfl
        refine W.widen (k := 4) (n := 25) (Nat.le_of_ble_eq_true rfl) (Nat.le_of_ble_eq_true rfl) ?_
        exact W.iret (v := 0) hx hb hr (fun t ht hW => ⟨⟨0, [(m0, .inr (20, [.int 1, .int 0, .ref m1, .ref m2, .ref m3, .int 0, .ref m4, .ref m5, .ref m6, .int 0, .ref m7, .ref m8, .ref m9, .int 0, .ref m10, .int 0, .ref m11, .ref m12, .ref m13, .int 0, .ref m14, .int 0, .int 0, .int 0, .ref m15, .ref m16]))], rfl, (Or.inr (Or.inr (Or.inr (Or.inr (Or.inr (Or.inl ⟨rfl, c_4, c_5, c_9, c_10, c_12, c_13, rfl⟩)))))), wq_B.of ht hP9 hD9⟩, hS.F ht⟩) hS.2.2 dX16_addWeak_73
      · have hP : va_P D vwCl [(m0, .inr (20, [.int 0, .int 0, .ref m1, .ref m2, .ref m3, .int 0, .ref m4, .ref m5, .ref m6, .int 0, .ref m7, .ref m8, .ref m9, .int 0, .ref m10, .int 0, .ref m11, .ref m12, .ref m13, .int 0, .ref m14, .int 0, .int 0, .int 0, .ref m15, .ref m16])), (m2, .inr (4, [.int 0, .ref td, .int 0]))] H := hP
        have hD : va_D A [(m0, .inr (20, [.int 0, .int 0, .ref m1, .ref m2, .ref m3, .int 0, .ref m4, .ref m5, .ref m6, .int 0, .ref m7, .ref m8, .ref m9, .int 0, .ref m10, .int 0, .ref m11, .ref m12, .ref m13, .int 0, .ref m14, .int 0, .int 0, .int 0, .ref m15, .ref m16])), (m2, .inr (4, [.int 0, .ref td, .int 0]))] := hD
        refine W.widen (k := 0) (n := 0) (Nat.le_of_ble_eq_true rfl) (Nat.le_of_ble_eq_true rfl) ?_
        refine lv_if_ne (tgt := 39) hx hb dX16_addWeak_32 (by decide) (fun _ => ?_) (fun c0 => absurd c0 (by decide))
        refine lv_iconst (v := 0) hx hb dX16_addWeak_39 (by decide) ?_
        refine lv_iconst (v := 1) hx hb dX16_addWeak_40 (by decide) ?_
        refine wq_i (wc := [(m0, .inr (20, [.int 0, .int 0, .ref m1, .ref m2, .ref m3, .int 0, .ref m4, .ref m5, .ref m6, .int 0, .ref m7, .ref m8, .ref m9, .int 0, .ref m10, .int 0, .ref m11, .ref m12, .ref m13, .int 0, .ref m14, .int 0, .int 0, .int 0, .ref m15, .ref m16]))]) (wr := [(m2, .inr (4, [.int 0, .ref td, .int 0]))]) (va_runV (As := [.int 0, .int 1]) (rest := []) ⟨hx, hb, hml, hown, hts⟩ (k_X16_fails_0_1 l D ty td mi H.size m0 m1 m2 m3 m4 m5 m6 m7 m8 m9 m10 m11 m12 m13 m14 m15 m16 0) (cwV 2 hts gv_k_X16_addWeak_9 rfl rfl rfl (by decide +kernel) ⟨(Nat.le_of_ble_eq_true rfl), (Nat.le_of_ble_eq_true rfl)⟩) (wq_preV hP hD hK hE hS hA [0] rfl (by decide) 0 20 rfl rfl) rfl rfl hl.1 rfl (lv_room (Nat.le_of_ble_eq_true rfl)) dX16_addWeak_41 ⟨(Nat.le_of_ble_eq_true rfl), (Nat.le_of_ble_eq_true rfl)⟩) hS hA hP hD [0] [1] rfl rfl (by decide) (by decide) (fun r u H locs hw hP hD hS => ?_)
        obtain ⟨rfl, rfl⟩ := hw
        have hP : va_P D vwCl [(m2, .inr (4, [.int 0, .ref td, .int 0])), (m0, .inr (20, [.int 0, .int 0, .ref m1, .ref m2, .ref m3, .int 0, .ref m4, .ref m5, .ref m6, .int 0, .ref m7, .ref m8, .ref m9, .int 0, .ref m10, .int 0, .ref m11, .ref m12, .ref m13, .int 0, .ref m14, .int 0, .int 0, .int 0, .ref m15, .ref m16]))] H := hP
        have hD : va_D A [(m2, .inr (4, [.int 0, .ref td, .int 0])), (m0, .inr (20, [.int 0, .int 0, .ref m1, .ref m2, .ref m3, .int 0, .ref m4, .ref m5, .ref m6, .int 0, .ref m7, .ref m8, .ref m9, .int 0, .ref m10, .int 0, .ref m11, .ref m12, .ref m13, .int 0, .ref m14, .int 0, .int 0, .int 0, .ref m15, .ref m16]))] := hD
        refine W.widen (k := 0) (n := 0) (Nat.le_of_ble_eq_true rfl) (Nat.le_of_ble_eq_true rfl) ?_
        refine lv_if_ne (tgt := 72) hx hb dX16_addWeak_44 (by decide) (fun c0 => absurd (by decide) c0) (fun _ => ?_)
        refine lv_aload_n hx hb dX16_addWeak_47 rfl (lv_at hl 0 rfl) ?_
        refine lv_aload_n hx hb dX16_addWeak_48 rfl (lv_at hl 0 rfl) ?_
        refine va_get (D := D) (ci := 20) (v := .ref m2) (C := RX16) (T := TX16) (N := 26) hx hb hts iv_k_X16_addWeak_X16 hown hK hP 1 rfl rfl 3 (by decide) (hts (.fieldLink RX16 16 "AnswerFoldModel" "rules" "Ljava/util/ArrayList;") (by decide +kernel)) (fun _ h9 => h9) rfl dX16_addWeak_49 ?_
        refine wq_i (wc := [(m2, .inr (4, [.int 0, .ref td, .int 0]))]) (wr := [(m0, .inr (20, [.int 0, .int 0, .ref m1, .ref m2, .ref m3, .int 0, .ref m4, .ref m5, .ref m6, .int 0, .ref m7, .ref m8, .ref m9, .int 0, .ref m10, .int 0, .ref m11, .ref m12, .ref m13, .int 0, .ref m14, .int 0, .int 0, .int 0, .ref m15, .ref m16]))]) (va_runV (As := []) (rest := [.ref m0]) ⟨hx, hb, hml, hown, hts⟩ (k_size l D ty td mi H.size m2 td 0 0) (cwV 0 hts gv_k_X16_addWeak_10 rfl rfl rfl (by decide +kernel) ⟨(Nat.le_of_ble_eq_true rfl), (Nat.le_of_ble_eq_true rfl)⟩) (wq_preV hP hD hK hE hS hA [0] rfl (by decide) 0 4 rfl rfl) rfl rfl hl.1 rfl (lv_room (Nat.le_of_ble_eq_true rfl)) dX16_addWeak_52 ⟨(Nat.le_of_ble_eq_true rfl), (Nat.le_of_ble_eq_true rfl)⟩) hS hA hP hD [0] [1] rfl rfl (by decide) (by decide) (fun r u H locs hw hP hD hS => ?_)
        obtain ⟨rfl, rfl⟩ := hw
        have hP : va_P D vwCl [(m0, .inr (20, [.int 0, .int 0, .ref m1, .ref m2, .ref m3, .int 0, .ref m4, .ref m5, .ref m6, .int 0, .ref m7, .ref m8, .ref m9, .int 0, .ref m10, .int 0, .ref m11, .ref m12, .ref m13, .int 0, .ref m14, .int 0, .int 0, .int 0, .ref m15, .ref m16])), (m2, .inr (4, [.int 0, .ref td, .int 0]))] H := hP
        have hD : va_D A [(m0, .inr (20, [.int 0, .int 0, .ref m1, .ref m2, .ref m3, .int 0, .ref m4, .ref m5, .ref m6, .int 0, .ref m7, .ref m8, .ref m9, .int 0, .ref m10, .int 0, .ref m11, .ref m12, .ref m13, .int 0, .ref m14, .int 0, .int 0, .int 0, .ref m15, .ref m16])), (m2, .inr (4, [.int 0, .ref td, .int 0]))] := hD
        refine W.widen (k := 0) (n := 0) (Nat.le_of_ble_eq_true rfl) (Nat.le_of_ble_eq_true rfl) ?_
        refine lv_bipush (v := 20) hx hb dX16_addWeak_55 (by decide) ?_
        refine lv_icmp_ne (tgt := 64) hx hb dX16_addWeak_57 (by decide) (fun _ => ?_) (fun c0 => absurd c0 (by decide))
        refine lv_iconst (v := 0) hx hb dX16_addWeak_64 (by decide) ?_
        refine lv_iconst (v := 2) hx hb dX16_addWeak_65 (by decide) ?_
        refine wq_i (wc := [(m0, .inr (20, [.int 0, .int 0, .ref m1, .ref m2, .ref m3, .int 0, .ref m4, .ref m5, .ref m6, .int 0, .ref m7, .ref m8, .ref m9, .int 0, .ref m10, .int 0, .ref m11, .ref m12, .ref m13, .int 0, .ref m14, .int 0, .int 0, .int 0, .ref m15, .ref m16]))]) (wr := [(m2, .inr (4, [.int 0, .ref td, .int 0]))]) (va_runV (As := [.int 0, .int 2]) (rest := []) ⟨hx, hb, hml, hown, hts⟩ (k_X16_fails_0_2 l D ty td mi H.size m0 m1 m2 m3 m4 m5 m6 m7 m8 m9 m10 m11 m12 m13 m14 m15 m16 0) (cwV 2 hts gv_k_X16_addWeak_11 rfl rfl rfl (by decide +kernel) ⟨(Nat.le_of_ble_eq_true rfl), (Nat.le_of_ble_eq_true rfl)⟩) (wq_preV hP hD hK hE hS hA [0] rfl (by decide) 0 20 rfl rfl) rfl rfl hl.1 rfl (lv_room (Nat.le_of_ble_eq_true rfl)) dX16_addWeak_66 ⟨(Nat.le_of_ble_eq_true rfl), (Nat.le_of_ble_eq_true rfl)⟩) hS hA hP hD [0] [1] rfl rfl (by decide) (by decide) (fun r u H locs hw hP hD hS => ?_)
        obtain ⟨rfl, rfl⟩ := hw
        have hP : va_P D vwCl [(m2, .inr (4, [.int 0, .ref td, .int 0])), (m0, .inr (20, [.int 0, .int 0, .ref m1, .ref m2, .ref m3, .int 0, .ref m4, .ref m5, .ref m6, .int 0, .ref m7, .ref m8, .ref m9, .int 0, .ref m10, .int 0, .ref m11, .ref m12, .ref m13, .int 0, .ref m14, .int 0, .int 0, .int 0, .ref m15, .ref m16]))] H := hP
        have hD : va_D A [(m2, .inr (4, [.int 0, .ref td, .int 0])), (m0, .inr (20, [.int 0, .int 0, .ref m1, .ref m2, .ref m3, .int 0, .ref m4, .ref m5, .ref m6, .int 0, .ref m7, .ref m8, .ref m9, .int 0, .ref m10, .int 0, .ref m11, .ref m12, .ref m13, .int 0, .ref m14, .int 0, .int 0, .int 0, .ref m15, .ref m16]))] := hD
        refine W.widen (k := 0) (n := 0) (Nat.le_of_ble_eq_true rfl) (Nat.le_of_ble_eq_true rfl) ?_
        refine lv_if_eq (tgt := 74) hx hb dX16_addWeak_69 (by decide) (fun _ => ?_) (fun c0 => absurd (by decide) c0)
        refine va_new (ci := 19) (fs := [.int 0, .int 0, .int 0, .int 0, .int 0, .int 0, .int 0, .null, .null]) (C := RX15) (T := TX15) (N := 9) hx hb hts iv_k_X16_addWeak_X15 tyX15 tyX15_ok hown (hts (.classLink RX16 98 RX15) (by decide +kernel)) (hts (.instantiable RX15 9) (by decide +kernel)) (hts (.initialized RX15) (by decide +kernel)) hK hP hD hS hA rfl (fun j hj => by rcases (show j = 0 ∨ j = 1 ∨ j = 2 ∨ j = 3 ∨ j = 4 ∨ j = 5 ∨ j = 6 ∨ j = 7 ∨ j = 8 by omega) with rfl | rfl | rfl | rfl | rfl | rfl | rfl | rfl | rfl <;> rfl) (Nat.le_of_ble_eq_true rfl) (Nat.le_of_ble_eq_true rfl) dX16_addWeak_74 (fun q128 H hP hD hS => ?_)
        have hP : va_P D vwCl [(m2, .inr (4, [.int 0, .ref td, .int 0])), (m0, .inr (20, [.int 0, .int 0, .ref m1, .ref m2, .ref m3, .int 0, .ref m4, .ref m5, .ref m6, .int 0, .ref m7, .ref m8, .ref m9, .int 0, .ref m10, .int 0, .ref m11, .ref m12, .ref m13, .int 0, .ref m14, .int 0, .int 0, .int 0, .ref m15, .ref m16])), (q128, .inr (19, [.int 0, .int 0, .int 0, .int 0, .int 0, .int 0, .int 0, .null, .null]))] H := hP
        have hD : va_D A [(m2, .inr (4, [.int 0, .ref td, .int 0])), (m0, .inr (20, [.int 0, .int 0, .ref m1, .ref m2, .ref m3, .int 0, .ref m4, .ref m5, .ref m6, .int 0, .ref m7, .ref m8, .ref m9, .int 0, .ref m10, .int 0, .ref m11, .ref m12, .ref m13, .int 0, .ref m14, .int 0, .int 0, .int 0, .ref m15, .ref m16])), (q128, .inr (19, [.int 0, .int 0, .int 0, .int 0, .int 0, .int 0, .int 0, .null, .null]))] := hD
        refine W.widen (k := 1) (n := 9) (Nat.le_of_ble_eq_true rfl) (Nat.le_of_ble_eq_true rfl) ?_
        refine lv_dup hx hb dX16_addWeak_77 rfl ?_
        refine lv_bipush (v := 119) hx hb dX16_addWeak_78 (by decide) ?_
        refine lv_iload_n hx hb dX16_addWeak_80 rfl (lv_at hl 1 rfl) ?_
        refine wq_v (wc := [(q128, .inr (19, [.int 0, .int 0, .int 0, .int 0, .int 0, .int 0, .int 0, .null, .null]))]) (wr := [(m2, .inr (4, [.int 0, .ref td, .int 0])), (m0, .inr (20, [.int 0, .int 0, .ref m1, .ref m2, .ref m3, .int 0, .ref m4, .ref m5, .ref m6, .int 0, .ref m7, .ref m8, .ref m9, .int 0, .ref m10, .int 0, .ref m11, .ref m12, .ref m13, .int 0, .ref m14, .int 0, .int 0, .int 0, .ref m15, .ref m16]))]) (va_runI (As := [.int 119, .int k1]) (rest := [.ref q128]) ⟨hx, hb, hml, hown, hts⟩ (k_X15_init_w l D ty td mi H.size q128 k1) (cwI 2 hts gv_k_X16_addWeak_12 rfl rfl rfl (hts (.initialized RX15) (by decide +kernel)) (hts (.methodLink RX16 100 yX15_init) (by decide +kernel)) (hts (.instanceMethod yX15_init) (by decide +kernel)) rfl (by decide +kernel) ⟨(Nat.le_of_ble_eq_true rfl), (Nat.le_of_ble_eq_true rfl)⟩) (wq_preS hP hD hK hE hS hA [2] rfl (by decide)) rfl rfl hl.1 rfl (lv_room (Nat.le_of_ble_eq_true rfl)) dX16_addWeak_81 ⟨(Nat.le_of_ble_eq_true rfl), (Nat.le_of_ble_eq_true rfl)⟩) hS hA hP hD [2] [0, 1] rfl rfl (by decide) (by decide) (fun u H locs hw hP hD hS => ?_)
        obtain ⟨q129, q130, rfl⟩ := hw
        have hP : va_P D vwCl [(m2, .inr (4, [.int 0, .ref td, .int 0])), (m0, .inr (20, [.int 0, .int 0, .ref m1, .ref m2, .ref m3, .int 0, .ref m4, .ref m5, .ref m6, .int 0, .ref m7, .ref m8, .ref m9, .int 0, .ref m10, .int 0, .ref m11, .ref m12, .ref m13, .int 0, .ref m14, .int 0, .int 0, .int 0, .ref m15, .ref m16])), (q128, .inr (19, [.int 119, .int k1, .int 0, .int 0, .int (-1), .int 0, .int 0, .ref q129, .ref q130])), (q129, .inr (4, [.int 0, .ref td, .int 0])), (q130, .inr (4, [.int 0, .ref td, .int 0]))] H := hP
        have hD : va_D A [(m2, .inr (4, [.int 0, .ref td, .int 0])), (m0, .inr (20, [.int 0, .int 0, .ref m1, .ref m2, .ref m3, .int 0, .ref m4, .ref m5, .ref m6, .int 0, .ref m7, .ref m8, .ref m9, .int 0, .ref m10, .int 0, .ref m11, .ref m12, .ref m13, .int 0, .ref m14, .int 0, .int 0, .int 0, .ref m15, .ref m16])), (q128, .inr (19, [.int 119, .int k1, .int 0, .int 0, .int (-1), .int 0, .int 0, .ref q129, .ref q130])), (q129, .inr (4, [.int 0, .ref td, .int 0])), (q130, .inr (4, [.int 0, .ref td, .int 0]))] := hD
        refine W.widen (k := 3) (n := 15) (Nat.le_of_ble_eq_true rfl) (Nat.le_of_ble_eq_true rfl) ?_
        refine lv_astore (lv' := [(4, .ref q128), (0, .ref m0), (1, .int k1), (2, .int k2), (3, .int k3)]) hx hb dX16_addWeak_84 hl (by decide) rfl (fun ls hl => ?_)
        refine lv_aload hx hb dX16_addWeak_86 (lv_at hl 0 rfl) ?_
        refine lv_iload_n hx hb dX16_addWeak_88 rfl (lv_at hl 3 rfl) ?_
        refine va_put (D := D) (ci := 19) (v := .int k2) (ty := tyX15 5) (C := RX15) (T := TX15) (N := 9) hx hb hts iv_k_X16_addWeak_X15 tyX15 tyX15_ok nmX15 hown hK hP hD hS 2 rfl rfl 5 (by decide) (hts (.fieldLink RX16 119 "AnswerFoldModel$Rule" "weight" "I") (by decide +kernel)) (fun _ h9 => h9) rfl (by decide +kernel) rfl rfl (Nat.le_of_ble_eq_true rfl) dX16_addWeak_89 (fun H locs hP hD hS => ?_)
        have hP : va_P D vwCl [(m2, .inr (4, [.int 0, .ref td, .int 0])), (m0, .inr (20, [.int 0, .int 0, .ref m1, .ref m2, .ref m3, .int 0, .ref m4, .ref m5, .ref m6, .int 0, .ref m7, .ref m8, .ref m9, .int 0, .ref m10, .int 0, .ref m11, .ref m12, .ref m13, .int 0, .ref m14, .int 0, .int 0, .int 0, .ref m15, .ref m16])), (q128, .inr (19, [.int 119, .int k1, .int 0, .int 0, .int (-1), .int k2, .int 0, .ref q129, .ref q130])), (q129, .inr (4, [.int 0, .ref td, .int 0])), (q130, .inr (4, [.int 0, .ref td, .int 0]))] H := hP
        have hD : va_D A [(m2, .inr (4, [.int 0, .ref td, .int 0])), (m0, .inr (20, [.int 0, .int 0, .ref m1, .ref m2, .ref m3, .int 0, .ref m4, .ref m5, .ref m6, .int 0, .ref m7, .ref m8, .ref m9, .int 0, .ref m10, .int 0, .ref m11, .ref m12, .ref m13, .int 0, .ref m14, .int 0, .int 0, .int 0, .ref m15, .ref m16])), (q128, .inr (19, [.int 119, .int k1, .int 0, .int 0, .int (-1), .int k2, .int 0, .ref q129, .ref q130])), (q129, .inr (4, [.int 0, .ref td, .int 0])), (q130, .inr (4, [.int 0, .ref td, .int 0]))] := hD
        refine lv_aload hx hb dX16_addWeak_92 (lv_at hl 0 rfl) ?_
        refine lv_iload_n hx hb dX16_addWeak_94 rfl (lv_at hl 4 rfl) ?_
        refine va_put (D := D) (ci := 19) (v := .int k3) (ty := tyX15 6) (C := RX15) (T := TX15) (N := 9) hx hb hts iv_k_X16_addWeak_X15 tyX15 tyX15_ok nmX15 hown hK hP hD hS 2 rfl rfl 6 (by decide) (hts (.fieldLink RX16 122 "AnswerFoldModel$Rule" "level" "I") (by decide +kernel)) (fun _ h9 => h9) rfl (by decide +kernel) rfl rfl (Nat.le_of_ble_eq_true rfl) dX16_addWeak_95 (fun H locs hP hD hS => ?_)
        have hP : va_P D vwCl [(m2, .inr (4, [.int 0, .ref td, .int 0])), (m0, .inr (20, [.int 0, .int 0, .ref m1, .ref m2, .ref m3, .int 0, .ref m4, .ref m5, .ref m6, .int 0, .ref m7, .ref m8, .ref m9, .int 0, .ref m10, .int 0, .ref m11, .ref m12, .ref m13, .int 0, .ref m14, .int 0, .int 0, .int 0, .ref m15, .ref m16])), (q128, .inr (19, [.int 119, .int k1, .int 0, .int 0, .int (-1), .int k2, .int k3, .ref q129, .ref q130])), (q129, .inr (4, [.int 0, .ref td, .int 0])), (q130, .inr (4, [.int 0, .ref td, .int 0]))] H := hP
        have hD : va_D A [(m2, .inr (4, [.int 0, .ref td, .int 0])), (m0, .inr (20, [.int 0, .int 0, .ref m1, .ref m2, .ref m3, .int 0, .ref m4, .ref m5, .ref m6, .int 0, .ref m7, .ref m8, .ref m9, .int 0, .ref m10, .int 0, .ref m11, .ref m12, .ref m13, .int 0, .ref m14, .int 0, .int 0, .int 0, .ref m15, .ref m16])), (q128, .inr (19, [.int 119, .int k1, .int 0, .int 0, .int (-1), .int k2, .int k3, .ref q129, .ref q130])), (q129, .inr (4, [.int 0, .ref td, .int 0])), (q130, .inr (4, [.int 0, .ref td, .int 0]))] := hD
        refine lv_aload_n hx hb dX16_addWeak_98 rfl (lv_at hl 1 rfl) ?_
        refine lv_aload hx hb dX16_addWeak_99 (lv_at hl 0 rfl) ?_
        refine wq_i (wc := [(m0, .inr (20, [.int 0, .int 0, .ref m1, .ref m2, .ref m3, .int 0, .ref m4, .ref m5, .ref m6, .int 0, .ref m7, .ref m8, .ref m9, .int 0, .ref m10, .int 0, .ref m11, .ref m12, .ref m13, .int 0, .ref m14, .int 0, .int 0, .int 0, .ref m15, .ref m16])), (m2, .inr (4, [.int 0, .ref td, .int 0])), (q128, .inr (19, [.int 119, .int k1, .int 0, .int 0, .int (-1), .int k2, .int k3, .ref q129, .ref q130]))]) (wr := [(q129, .inr (4, [.int 0, .ref td, .int 0])), (q130, .inr (4, [.int 0, .ref td, .int 0]))]) (va_runV (As := [.ref q128]) (rest := []) ⟨hx, hb, hml, hown, hts⟩ (k_X16_add l D ty td mi H.size m0 m1 m2 m3 m4 m5 m6 m7 m8 m9 m10 m11 m12 m13 m14 m15 m16 q128 q129 q130 q128 119 k1 0 0 (-1) k2 k3 q129 q130) (cwV 1 hts gv_k_X16_addWeak_13 rfl rfl rfl (by decide +kernel) ⟨(Nat.le_of_ble_eq_true rfl), (Nat.le_of_ble_eq_true rfl)⟩) (wq_preV hP hD hK hE hS hA [1, 0, 2] rfl (by decide) 1 20 rfl rfl) rfl rfl hl.1 rfl (lv_room (Nat.le_of_ble_eq_true rfl)) dX16_addWeak_101 ⟨(Nat.le_of_ble_eq_true rfl), (Nat.le_of_ble_eq_true rfl)⟩) hS hA hP hD [1, 0, 2] [3, 4] rfl rfl (by decide) (by decide) (fun r u H locs hw hP hD hS => ?_)
        obtain ⟨rfl, rfl⟩ := hw
        have hP : va_P D vwCl [(q129, .inr (4, [.int 0, .ref td, .int 0])), (q130, .inr (4, [.int 0, .ref td, .int 0])), (m0, .inr (20, [.int 0, .int 0, .ref m1, .ref m2, .ref m3, .int 0, .ref m4, .ref m5, .ref m6, .int 0, .ref m7, .ref m8, .ref m9, .int 0, .ref m10, .int 0, .ref m11, .ref m12, .ref m13, .int 0, .ref m14, .int 0, .int 0, .int 0, .ref m15, .ref m16]))] H := hP
        have hD : va_D A [(q129, .inr (4, [.int 0, .ref td, .int 0])), (q130, .inr (4, [.int 0, .ref td, .int 0])), (m0, .inr (20, [.int 0, .int 0, .ref m1, .ref m2, .ref m3, .int 0, .ref m4, .ref m5, .ref m6, .int 0, .ref m7, .ref m8, .ref m9, .int 0, .ref m10, .int 0, .ref m11, .ref m12, .ref m13, .int 0, .ref m14, .int 0, .int 0, .int 0, .ref m15, .ref m16]))] := hD
        refine W.widen (k := 4) (n := 25) (Nat.le_of_ble_eq_true rfl) (Nat.le_of_ble_eq_true rfl) ?_
        have hP9 := hP.sub (ws' := [(m0, .inr (20, [.int 0, .int 0, .ref m1, .ref m2, .ref m3, .int 0, .ref m4, .ref m5, .ref m6, .int 0, .ref m7, .ref m8, .ref m9, .int 0, .ref m10, .int 0, .ref m11, .ref m12, .ref m13, .int 0, .ref m14, .int 0, .int 0, .int 0, .ref m15, .ref m16]))]) [2] rfl
        have hD9 := hD.sub (ws' := [(m0, .inr (20, [.int 0, .int 0, .ref m1, .ref m2, .ref m3, .int 0, .ref m4, .ref m5, .ref m6, .int 0, .ref m7, .ref m8, .ref m9, .int 0, .ref m10, .int 0, .ref m11, .ref m12, .ref m13, .int 0, .ref m14, .int 0, .int 0, .int 0, .ref m15, .ref m16]))]) [2] (by decide) rfl
        refine W.widen (k := 4) (n := 25) (Nat.le_of_ble_eq_true rfl) (Nat.le_of_ble_eq_true rfl) ?_
        exact W.iret (v := 0) hx hb hr (fun t ht hW => ⟨⟨0, [(m0, .inr (20, [.int 0, .int 0, .ref m1, .ref m2, .ref m3, .int 0, .ref m4, .ref m5, .ref m6, .int 0, .ref m7, .ref m8, .ref m9, .int 0, .ref m10, .int 0, .ref m11, .ref m12, .ref m13, .int 0, .ref m14, .int 0, .int 0, .int 0, .ref m15, .ref m16]))], rfl, (Or.inr (Or.inr (Or.inr (Or.inr (Or.inr (Or.inr ⟨rfl, c_4, c_5, c_9, c_10, c_14, c_15, rfl⟩)))))), wq_B.of ht hP9 hD9⟩, hS.F ht⟩) hS.2.2 dX16_addWeak_104
def vs_k_itr_init : List Cond := .code yJx35411_init_45d68 cJx35411_init_45d68 2 none :: ([.fieldLink RJx35411 1 "java/util/ArrayList$Itr" "this$0" "Ljava/util/ArrayList;", .methodLink RJx35411 7 objectInit, .instanceMethod objectInit, .code objectInit ⟨#[0xb1]⟩ 1 none, .fieldLink RJx35411 13 "java/util/ArrayList$Itr" "lastRet" "I", .sameField "java/util/ArrayList" "java/util/AbstractList" "modCount" "I", .fieldLink RJx35411 17 "java/util/ArrayList" "modCount" "I", .fieldLink RJx35411 22 "java/util/ArrayList$Itr" "expectedModCount" "I"] ++ (u_ws RJx35411 TJx35411 4 ++ (u_ws RJx4a65c TJx4a65c 3)))
theorem iv_k_itr_init_Jx35411 : ∀ w ∈ u_ws RJx35411 TJx35411 4, w ∈ vs_k_itr_init := (fun _ h => List.mem_cons_of_mem _ (List.mem_append_right _ (List.mem_append_left _ h)))
theorem iv_k_itr_init_Jx4a65c : ∀ w ∈ u_ws RJx4a65c TJx4a65c 3, w ∈ vs_k_itr_init := (fun _ h => List.mem_cons_of_mem _ (List.mem_append_right _ (List.mem_append_right _ (h))))
set_option maxHeartbeats 4000000 in
set_option maxRecDepth 100000 in
theorem k_itr_init (l : Launch) (D : va_G) (ty : Nat → ClassId) (td mi sz : Nat) (h0 : Nat) (h1 : Nat) (k9 : Int32) : Met l yJx35411_init_45d68 vs_k_itr_init { frames := 1, cells := 0, slots := 0, locals := 12 } (va_Pc [.ref h0, .ref h1] (wq_P D ty td mi [(h0, .inr (3, [.int 0, .int 0, .int 0, .null])), (h1, .inr (4, [.int k9, .ref td, .int 0]))] sz)) (va_Qv (fun u : va_W => ((u = [(h0, .inr (3, [.int 0, .int (-1), .int k9, .ref h1])), (h1, .inr (4, [.int k9, .ref td, .int 0]))]))) (wq_B D (va_A [(h0, .inr (3, [.int 0, .int 0, .int 0, .null])), (h1, .inr (4, [.int k9, .ref td, .int 0]))] sz)) (va_A [(h0, .inr (3, [.int 0, .int 0, .int 0, .null])), (h1, .inr (4, [.int k9, .ref td, .int 0]))] sz)) 0 0 (va_A [(h0, .inr (3, [.int 0, .int 0, .int 0, .null])), (h1, .inr (4, [.int k9, .ref td, .int 0]))] sz) := by
  refine Met.ofW (cc := cJx35411_init_45d68) (maxL := 2) (ret := none) (by decide) rfl ?_
  intro p e s m args below meth c s₁ B hml hv
  obtain ⟨rfl, hsz, hP, hK, hD0, hE⟩ := hv
  have hx := B.exec
  have hb := B.bytes
  have hr := B.returns
  have hts := atoms_spec (ws := vs_k_itr_init) B.pre
  have hown : s.vm.findClass RJx35411 = some m.cls := findClass_of_methodNamed B.named
  have hlocks := B.notSynchronized
  have hin : meth.name = "<init>" := (name_of_methodNamed B.named B.method).1
  subst hsz
  have hD := hD0.self (sz := s.heap.size)
  generalize hAe : va_A [(h0, .inr (3, [.int 0, .int 0, .int 0, .null])), (h1, .inr (4, [.int k9, .ref td, .int 0]))] s.heap.size = A at hD hE ⊢
  have hA : ∀ q : Nat, s.heap.size ≤ q → A q := fun q h => by rw [← hAe]; exact Or.inr h
  have hS : va_S A s.heap s.heap [] := va_S.rf
  have hP : va_P D vwCl [(h0, .inr (3, [.int 0, .int 0, .int 0, .null])), (h1, .inr (4, [.int k9, .ref td, .int 0]))] s.heap := hP
  have hl := lv_entry ([.ref h0, .ref h1]) (n := 2) (Nat.le_of_ble_eq_true rfl)
  rw [lg_entry_eq]
  generalize (lg_sl ([.ref h0, .ref h1]) ++ List.replicate (2 - (lg_sl ([.ref h0, .ref h1])).length) Slot.unset).toArray = ls at hl ⊢
  have hl : lv_has ls 2 [(0, .ref h0), (1, .ref h1)] := hl
  refine lv_aload_n hx hb dJx35411_init_45d68_0 rfl (lv_at hl 0 rfl) ?_
  refine lv_aload_n hx hb dJx35411_init_45d68_1 rfl (lv_at hl 1 rfl) ?_
  refine va_putF (D := D) (ci := 3) (v := .ref h1) (ty := tyJx35411 3) (C := RJx35411) (T := TJx35411) (N := 4) hx hb hts iv_k_itr_init_Jx35411 tyJx35411 tyJx35411_ok nmJx35411 hown hK hP hD hS 0 rfl rfl 3 (by decide) (hts (.fieldLink RJx35411 1 "java/util/ArrayList$Itr" "this$0" "Ljava/util/ArrayList;") (by decide +kernel)) (fun _ h9 => h9) rfl hin rfl (by decide +kernel) rfl rfl (Nat.le_of_ble_eq_true rfl) dJx35411_init_45d68_2 (fun H locs hP hD hS => ?_)
  have hP : va_P D vwCl [(h0, .inr (3, [.int 0, .int 0, .int 0, .ref h1])), (h1, .inr (4, [.int k9, .ref td, .int 0]))] H := hP
  have hD : va_D A [(h0, .inr (3, [.int 0, .int 0, .int 0, .ref h1])), (h1, .inr (4, [.int k9, .ref td, .int 0]))] := hD
  refine lv_aload_n hx hb dJx35411_init_45d68_5 rfl (lv_at hl 0 rfl) ?_
  refine W.objInit hx hb hown (hts (.methodLink RJx35411 7 objectInit) (by decide +kernel)) (hts (.instanceMethod objectInit) (by decide +kernel)) (hts (.code objectInit ⟨#[0xb1]⟩ 1 none) (by decide +kernel)) rfl (by rw [hml]; exact hl.1) rfl dJx35411_init_45d68_6 (Nat.le_of_ble_eq_true rfl) (Nat.le_of_ble_eq_true rfl) ?_
  refine W.eq (g2 := F0 m 9 ls []) rfl ?_
  refine lv_aload_n hx hb dJx35411_init_45d68_9 rfl (lv_at hl 0 rfl) ?_
  refine lv_iconst (v := (-1)) hx hb dJx35411_init_45d68_10 (by decide) ?_
  refine va_put (D := D) (ci := 3) (v := .int (-1)) (ty := tyJx35411 1) (C := RJx35411) (T := TJx35411) (N := 4) hx hb hts iv_k_itr_init_Jx35411 tyJx35411 tyJx35411_ok nmJx35411 hown hK hP hD hS 0 rfl rfl 1 (by decide) (hts (.fieldLink RJx35411 13 "java/util/ArrayList$Itr" "lastRet" "I") (by decide +kernel)) (fun _ h9 => h9) rfl (by decide +kernel) rfl rfl (Nat.le_of_ble_eq_true rfl) dJx35411_init_45d68_11 (fun H locs hP hD hS => ?_)
  have hP : va_P D vwCl [(h0, .inr (3, [.int 0, .int (-1), .int 0, .ref h1])), (h1, .inr (4, [.int k9, .ref td, .int 0]))] H := hP
  have hD : va_D A [(h0, .inr (3, [.int 0, .int (-1), .int 0, .ref h1])), (h1, .inr (4, [.int k9, .ref td, .int 0]))] := hD
  refine lv_aload_n hx hb dJx35411_init_45d68_14 rfl (lv_at hl 0 rfl) ?_
  refine lv_aload_n hx hb dJx35411_init_45d68_15 rfl (lv_at hl 0 rfl) ?_
  refine va_get (D := D) (ci := 3) (v := .ref h1) (C := RJx35411) (T := TJx35411) (N := 4) hx hb hts iv_k_itr_init_Jx35411 hown hK hP 0 rfl rfl 3 (by decide) (hts (.fieldLink RJx35411 1 "java/util/ArrayList$Itr" "this$0" "Ljava/util/ArrayList;") (by decide +kernel)) (fun _ h9 => h9) rfl dJx35411_init_45d68_16 ?_
  refine va_get (D := D) (ci := 4) (v := .int k9) (C := RJx4a65c) (T := TJx4a65c) (N := 3) hx hb hts iv_k_itr_init_Jx4a65c hown hK hP 1 rfl rfl 0 (by decide) (hts (.fieldLink RJx35411 17 "java/util/ArrayList" "modCount" "I") (by decide +kernel)) (fun x9 h9 => u_same (hts (.sameField "java/util/ArrayList" "java/util/AbstractList" "modCount" "I") (by decide +kernel)) x9 h9) rfl dJx35411_init_45d68_19 ?_
  refine va_put (D := D) (ci := 3) (v := .int k9) (ty := tyJx35411 2) (C := RJx35411) (T := TJx35411) (N := 4) hx hb hts iv_k_itr_init_Jx35411 tyJx35411 tyJx35411_ok nmJx35411 hown hK hP hD hS 0 rfl rfl 2 (by decide) (hts (.fieldLink RJx35411 22 "java/util/ArrayList$Itr" "expectedModCount" "I") (by decide +kernel)) (fun _ h9 => h9) rfl (by decide +kernel) rfl rfl (Nat.le_of_ble_eq_true rfl) dJx35411_init_45d68_22 (fun H locs hP hD hS => ?_)
  have hP : va_P D vwCl [(h0, .inr (3, [.int 0, .int (-1), .int k9, .ref h1])), (h1, .inr (4, [.int k9, .ref td, .int 0]))] H := hP
  have hD : va_D A [(h0, .inr (3, [.int 0, .int (-1), .int k9, .ref h1])), (h1, .inr (4, [.int k9, .ref td, .int 0]))] := hD
  have hP9 := hP.sub (ws' := [(h0, .inr (3, [.int 0, .int (-1), .int k9, .ref h1])), (h1, .inr (4, [.int k9, .ref td, .int 0]))]) [0, 1] rfl
  have hD9 := hD.sub (ws' := [(h0, .inr (3, [.int 0, .int (-1), .int k9, .ref h1])), (h1, .inr (4, [.int k9, .ref td, .int 0]))]) [0, 1] (by decide) rfl
  refine W.widen (k := 0) (n := 0) (Nat.le_of_ble_eq_true rfl) (Nat.le_of_ble_eq_true rfl) ?_
  exact W.vret hx hb hr (fun t ht hW => ⟨⟨[(h0, .inr (3, [.int 0, .int (-1), .int k9, .ref h1])), (h1, .inr (4, [.int k9, .ref td, .int 0]))], rfl, rfl, wq_B.of ht hP9 hD9⟩, hS.F ht⟩) hS.2.2 dJx35411_init_45d68_25
def vs_k_iterator : List Cond := .code yJx4a65c_iterator_32c93 cJx4a65c_iterator_32c93 1 (some (.object "java/util/Iterator")) :: ([.classLink RJx4a65c 267 RJx35411, .instantiable RJx35411 4, .initialized RJx35411, .methodLink RJx4a65c 269 yJx35411_init_45d68, .instanceMethod yJx35411_init_45d68] ++ (u_ws RJx35411 TJx35411 4 ++ (vs_k_itr_init)))
theorem iv_k_iterator_Jx35411 : ∀ w ∈ u_ws RJx35411 TJx35411 4, w ∈ vs_k_iterator := (fun _ h => List.mem_cons_of_mem _ (List.mem_append_right _ (List.mem_append_left _ h)))
set_option maxRecDepth 20000 in
theorem gv_k_iterator_0 : GoodIn vs_k_iterator (vs_k_itr_init) := (goodIn_sub (fun _ h => List.mem_cons_of_mem _ (List.mem_append_right _ (List.mem_append_right _ (h)))) (by decide +kernel))
set_option maxHeartbeats 4000000 in
set_option maxRecDepth 100000 in
theorem k_iterator (l : Launch) (D : va_G) (ty : Nat → ClassId) (td mi sz : Nat) (h0 : Nat) (k9 : Int32) : Met l yJx4a65c_iterator_32c93 vs_k_iterator { frames := 2, cells := 1, slots := 4, locals := 33 } (va_Pc [.ref h0] (wq_P D ty td mi [(h0, .inr (4, [.int k9, .ref td, .int 0]))] sz)) (wq_Qr (fun (r : Value) (u : va_W) => (∃ (q131 : Nat), r = .ref q131 ∧ (u = [(q131, .inr (3, [.int 0, .int (-1), .int k9, .ref h0])), (h0, .inr (4, [.int k9, .ref td, .int 0]))]))) (wq_B D (va_A [(h0, .inr (4, [.int k9, .ref td, .int 0]))] sz)) (va_A [(h0, .inr (4, [.int k9, .ref td, .int 0]))] sz)) 1 4 (va_A [(h0, .inr (4, [.int k9, .ref td, .int 0]))] sz) := by
  refine Met.ofW (cc := cJx4a65c_iterator_32c93) (maxL := 1) (ret := (some (.object "java/util/Iterator"))) (by decide) rfl ?_
  intro p e s m args below meth c s₁ B hml hv
  obtain ⟨rfl, hsz, hP, hK, hD0, hE⟩ := hv
  have hx := B.exec
  have hb := B.bytes
  have hr := B.returns
  have hts := atoms_spec (ws := vs_k_iterator) B.pre
  have hown : s.vm.findClass RJx4a65c = some m.cls := findClass_of_methodNamed B.named
  have hlocks := B.notSynchronized
  subst hsz
  have hD := hD0.self (sz := s.heap.size)
  generalize hAe : va_A [(h0, .inr (4, [.int k9, .ref td, .int 0]))] s.heap.size = A at hD hE ⊢
  have hA : ∀ q : Nat, s.heap.size ≤ q → A q := fun q h => by rw [← hAe]; exact Or.inr h
  have hS : va_S A s.heap s.heap [] := va_S.rf
  have hP : va_P D vwCl [(h0, .inr (4, [.int k9, .ref td, .int 0]))] s.heap := hP
  have hl := lv_entry ([.ref h0]) (n := 1) (Nat.le_of_ble_eq_true rfl)
  rw [lg_entry_eq]
  generalize (lg_sl ([.ref h0]) ++ List.replicate (1 - (lg_sl ([.ref h0])).length) Slot.unset).toArray = ls at hl ⊢
  have hl : lv_has ls 1 [(0, .ref h0)] := hl
  refine va_new (ci := 3) (fs := [.int 0, .int 0, .int 0, .null]) (C := RJx35411) (T := TJx35411) (N := 4) hx hb hts iv_k_iterator_Jx35411 tyJx35411 tyJx35411_ok hown (hts (.classLink RJx4a65c 267 RJx35411) (by decide +kernel)) (hts (.instantiable RJx35411 4) (by decide +kernel)) (hts (.initialized RJx35411) (by decide +kernel)) hK hP hD hS hA rfl (fun j hj => by rcases (show j = 0 ∨ j = 1 ∨ j = 2 ∨ j = 3 by omega) with rfl | rfl | rfl | rfl <;> rfl) (Nat.le_of_ble_eq_true rfl) (Nat.le_of_ble_eq_true rfl) dJx4a65c_iterator_32c93_0 (fun q131 H hP hD hS => ?_)
  have hP : va_P D vwCl [(h0, .inr (4, [.int k9, .ref td, .int 0])), (q131, .inr (3, [.int 0, .int 0, .int 0, .null]))] H := hP
  have hD : va_D A [(h0, .inr (4, [.int k9, .ref td, .int 0])), (q131, .inr (3, [.int 0, .int 0, .int 0, .null]))] := hD
  refine W.widen (k := 1) (n := 4) (Nat.le_of_ble_eq_true rfl) (Nat.le_of_ble_eq_true rfl) ?_
  refine lv_dup hx hb dJx4a65c_iterator_32c93_3 rfl ?_
  refine lv_aload_n hx hb dJx4a65c_iterator_32c93_4 rfl (lv_at hl 0 rfl) ?_
  refine wq_v (wc := [(q131, .inr (3, [.int 0, .int 0, .int 0, .null])), (h0, .inr (4, [.int k9, .ref td, .int 0]))]) (wr := []) (va_runI (As := [.ref h0]) (rest := [.ref q131]) ⟨hx, hb, hml, hown, hts⟩ (k_itr_init l D ty td mi H.size q131 h0 k9) (cwI 1 hts gv_k_iterator_0 rfl rfl rfl (hts (.initialized RJx35411) (by decide +kernel)) (hts (.methodLink RJx4a65c 269 yJx35411_init_45d68) (by decide +kernel)) (hts (.instanceMethod yJx35411_init_45d68) (by decide +kernel)) rfl (by decide +kernel) ⟨(Nat.le_of_ble_eq_true rfl), (Nat.le_of_ble_eq_true rfl)⟩) (wq_preS hP hD hK hE hS hA [1, 0] rfl (by decide)) rfl rfl hl.1 rfl (lv_room (Nat.le_of_ble_eq_true rfl)) dJx4a65c_iterator_32c93_5 ⟨(Nat.le_of_ble_eq_true rfl), (Nat.le_of_ble_eq_true rfl)⟩) hS hA hP hD [1, 0] [] rfl rfl (by decide) (by decide) (fun u H locs hw hP hD hS => ?_)
  obtain rfl := hw
  have hP : va_P D vwCl [(q131, .inr (3, [.int 0, .int (-1), .int k9, .ref h0])), (h0, .inr (4, [.int k9, .ref td, .int 0]))] H := hP
  have hD : va_D A [(q131, .inr (3, [.int 0, .int (-1), .int k9, .ref h0])), (h0, .inr (4, [.int k9, .ref td, .int 0]))] := hD
  refine W.widen (k := 1) (n := 4) (Nat.le_of_ble_eq_true rfl) (Nat.le_of_ble_eq_true rfl) ?_
  have hP9 := hP.sub (ws' := [(q131, .inr (3, [.int 0, .int (-1), .int k9, .ref h0])), (h0, .inr (4, [.int k9, .ref td, .int 0]))]) [0, 1] rfl
  have hD9 := hD.sub (ws' := [(q131, .inr (3, [.int 0, .int (-1), .int k9, .ref h0])), (h0, .inr (4, [.int k9, .ref td, .int 0]))]) [0, 1] (by decide) rfl
  refine W.widen (k := 1) (n := 4) (Nat.le_of_ble_eq_true rfl) (Nat.le_of_ble_eq_true rfl) ?_
  exact W.aret (v := .ref q131) hx hb hr (Or.inl ⟨_, rfl⟩) (Or.inr ⟨_, rfl⟩) (fun t ht hW => ⟨⟨.ref q131, [(q131, .inr (3, [.int 0, .int (-1), .int k9, .ref h0])), (h0, .inr (4, [.int k9, .ref td, .int 0]))], rfl, ⟨q131, rfl, rfl⟩, wq_B.of ht hP9 hD9⟩, hS.F ht⟩) hS.2.2 dJx4a65c_iterator_32c93_8
def vs_k_hasNext : List Cond := .code yJx35411_hasNext_aae02 cJx35411_hasNext_aae02 1 (some .boolean) :: ([.fieldLink RJx35411 25 "java/util/ArrayList$Itr" "cursor" "I", .fieldLink RJx35411 1 "java/util/ArrayList$Itr" "this$0" "Ljava/util/ArrayList;"] ++ (u_ws RJx35411 TJx35411 4 ++ (u_ws RJx4a65c TJx4a65c 3)))
theorem iv_k_hasNext_Jx35411 : ∀ w ∈ u_ws RJx35411 TJx35411 4, w ∈ vs_k_hasNext := (fun _ h => List.mem_cons_of_mem _ (List.mem_append_right _ (List.mem_append_left _ h)))
theorem iv_k_hasNext_Jx4a65c : ∀ w ∈ u_ws RJx4a65c TJx4a65c 3, w ∈ vs_k_hasNext := (fun _ h => List.mem_cons_of_mem _ (List.mem_append_right _ (List.mem_append_right _ (h))))
set_option maxHeartbeats 4000000 in
set_option maxRecDepth 100000 in
theorem k_hasNext (l : Launch) (D : va_G) (ty : Nat → ClassId) (td mi sz : Nat) (h0 : Nat) (h1 : Nat) (k9 : Int32) (k1 : Int32) (k2 : Int32) : Met l yJx35411_hasNext_aae02 vs_k_hasNext { frames := 0, cells := 0, slots := 0, locals := 0 } (va_Pc [.ref h0] (wq_P D ty td mi [(h0, .inr (3, [.int 0, .int k1, .int k2, .ref h1])), (h1, .inr (4, [.int k9, .ref td, .int 0]))] sz)) (va_Qi (fun (r : Int32) (u : va_W) => (r = 0 ∧ (u = [(h0, .inr (3, [.int 0, .int k1, .int k2, .ref h1])), (h1, .inr (4, [.int k9, .ref td, .int 0]))]))) (wq_B D (va_A [(h0, .inr (3, [.int 0, .int k1, .int k2, .ref h1])), (h1, .inr (4, [.int k9, .ref td, .int 0]))] sz)) (va_A [(h0, .inr (3, [.int 0, .int k1, .int k2, .ref h1])), (h1, .inr (4, [.int k9, .ref td, .int 0]))] sz)) 0 0 (va_A [(h0, .inr (3, [.int 0, .int k1, .int k2, .ref h1])), (h1, .inr (4, [.int k9, .ref td, .int 0]))] sz) := by
  refine Met.ofW (cc := cJx35411_hasNext_aae02) (maxL := 1) (ret := (some .boolean)) (by decide) rfl ?_
  intro p e s m args below meth c s₁ B hml hv
  obtain ⟨rfl, hsz, hP, hK, hD0, hE⟩ := hv
  have hx := B.exec
  have hb := B.bytes
  have hr := B.returns
  have hts := atoms_spec (ws := vs_k_hasNext) B.pre
  have hown : s.vm.findClass RJx35411 = some m.cls := findClass_of_methodNamed B.named
  have hlocks := B.notSynchronized
  subst hsz
  have hD := hD0.self (sz := s.heap.size)
  generalize hAe : va_A [(h0, .inr (3, [.int 0, .int k1, .int k2, .ref h1])), (h1, .inr (4, [.int k9, .ref td, .int 0]))] s.heap.size = A at hD hE ⊢
  have hA : ∀ q : Nat, s.heap.size ≤ q → A q := fun q h => by rw [← hAe]; exact Or.inr h
  have hS : va_S A s.heap s.heap [] := va_S.rf
  have hP : va_P D vwCl [(h0, .inr (3, [.int 0, .int k1, .int k2, .ref h1])), (h1, .inr (4, [.int k9, .ref td, .int 0]))] s.heap := hP
  have hl := lv_entry ([.ref h0]) (n := 1) (Nat.le_of_ble_eq_true rfl)
  rw [lg_entry_eq]
  generalize (lg_sl ([.ref h0]) ++ List.replicate (1 - (lg_sl ([.ref h0])).length) Slot.unset).toArray = ls at hl ⊢
  have hl : lv_has ls 1 [(0, .ref h0)] := hl
  refine lv_aload_n hx hb dJx35411_hasNext_aae02_0 rfl (lv_at hl 0 rfl) ?_
  refine va_get (D := D) (ci := 3) (v := .int 0) (C := RJx35411) (T := TJx35411) (N := 4) hx hb hts iv_k_hasNext_Jx35411 hown hK hP 0 rfl rfl 0 (by decide) (hts (.fieldLink RJx35411 25 "java/util/ArrayList$Itr" "cursor" "I") (by decide +kernel)) (fun _ h9 => h9) rfl dJx35411_hasNext_aae02_1 ?_
  refine lv_aload_n hx hb dJx35411_hasNext_aae02_4 rfl (lv_at hl 0 rfl) ?_
  refine va_get (D := D) (ci := 3) (v := .ref h1) (C := RJx35411) (T := TJx35411) (N := 4) hx hb hts iv_k_hasNext_Jx35411 hown hK hP 0 rfl rfl 3 (by decide) (hts (.fieldLink RJx35411 1 "java/util/ArrayList$Itr" "this$0" "Ljava/util/ArrayList;") (by decide +kernel)) (fun _ h9 => h9) rfl dJx35411_hasNext_aae02_5 ?_
  refine va_getN (D := D) (ci := 4) (v := .int 0) (C := RJx4a65c) (T := TJx4a65c) (N := 3) hx hb hts iv_k_hasNext_Jx4a65c hown hK hP 1 rfl rfl 2 (by decide) (hE.at (.fieldLinkNest "java/util/ArrayList$Itr" 28 "java/util/ArrayList" "size" "I" "java/util/ArrayList") (by decide +kernel)) (fun _ h9 => h9) rfl dJx35411_hasNext_aae02_8 ?_
  refine lv_icmp_eq (tgt := 18) hx hb dJx35411_hasNext_aae02_11 (by decide) (fun _ => ?_) (fun c0 => absurd (by decide) c0)
  refine lv_iconst (v := 0) hx hb dJx35411_hasNext_aae02_18 (by decide) ?_
  have hP9 := hP.sub (ws' := [(h0, .inr (3, [.int 0, .int k1, .int k2, .ref h1])), (h1, .inr (4, [.int k9, .ref td, .int 0]))]) [0, 1] rfl
  have hD9 := hD.sub (ws' := [(h0, .inr (3, [.int 0, .int k1, .int k2, .ref h1])), (h1, .inr (4, [.int k9, .ref td, .int 0]))]) [0, 1] (by decide) rfl
  refine W.widen (k := 0) (n := 0) (Nat.le_of_ble_eq_true rfl) (Nat.le_of_ble_eq_true rfl) ?_
  exact W.zret (v := 0) hx hb hr rfl (fun t ht hW => ⟨⟨0, [(h0, .inr (3, [.int 0, .int k1, .int k2, .ref h1])), (h1, .inr (4, [.int k9, .ref td, .int 0]))], rfl, ⟨rfl, rfl⟩, wq_B.of ht hP9 hD9⟩, hS.F ht⟩) hS.2.2 dJx35411_hasNext_aae02_19
def vs_k_X16_ground : List Cond := .code yX16_ground cX16_ground 6 (some .int) :: ([.fieldLink RX16 65 "AnswerFoldModel" "thrown" "I", .methodLink RX16 72 yX16_in, .static yX16_in, .initialized RX16, .methodLink RX16 87 yX16_fails, .instanceMethod yX16_fails, .selects RX16 yX16_fails yX16_fails, .fieldLink RX16 20 "AnswerFoldModel" "grounded" "Ljava/util/ArrayList;", .methodLink RX16 167 yJx4a65c_iterator_32c93, .instanceMethod yJx4a65c_iterator_32c93, .selects RJx4a65c yJx4a65c_iterator_32c93 yJx4a65c_iterator_32c93, .initialized RJx4a65c, .methodLink RX16 171 ⟨"java/util/Iterator", "hasNext", "()Z"⟩, .selects RJx35411 ⟨"java/util/Iterator", "hasNext", "()Z"⟩ yJx35411_hasNext_aae02, .instanceMethod yJx35411_hasNext_aae02, .initialized RJx35411, .methodLink RX16 76 yJx4a65c_size_8abf5, .instanceMethod yJx4a65c_size_8abf5, .selects RJx4a65c yJx4a65c_size_8abf5 yJx4a65c_size_8abf5, .arrayClass .int, .methodLink RX16 94 yJx4a65c_add_9ea2d, .instanceMethod yJx4a65c_add_9ea2d, .selects RJx4a65c yJx4a65c_add_9ea2d yJx4a65c_add_9ea2d, .methodLink RX16 91 yX16_change, .instanceMethod yX16_change, .selects RX16 yX16_change yX16_change] ++ (u_ws RX16 TX16 26 ++ (vs_k_X16_in ++ (vs_k_X16_fails_1_1 ++ (vs_k_X16_fails_0_1 ++ (vs_k_iterator ++ (vs_k_hasNext ++ (vs_k_size ++ (vs_k_X16_fails_0_2 ++ (vs_k_add1_ints ++ (vs_k_X16_change)))))))))))
theorem iv_k_X16_ground_X16 : ∀ w ∈ u_ws RX16 TX16 26, w ∈ vs_k_X16_ground := (fun _ h => List.mem_cons_of_mem _ (List.mem_append_right _ (List.mem_append_left _ h)))
set_option maxRecDepth 20000 in
theorem gv_k_X16_ground_0 : GoodIn vs_k_X16_ground (va_wsS RX16 72 yX16_in vs_k_X16_in) := goodIn_app (goodIn_sub (by decide +kernel) (by decide +kernel)) (goodIn_sub (fun _ h => List.mem_cons_of_mem _ (List.mem_append_right _ (List.mem_append_right _ (List.mem_append_left _ h)))) (by decide +kernel))
set_option maxRecDepth 20000 in
theorem gv_k_X16_ground_1 : GoodIn vs_k_X16_ground (wsV RX16 87 RX16 yX16_fails vs_k_X16_fails_1_1) := goodIn_app (goodIn_sub (by decide +kernel) (by decide +kernel)) (goodIn_sub (fun _ h => List.mem_cons_of_mem _ (List.mem_append_right _ (List.mem_append_right _ (List.mem_append_right _ (List.mem_append_left _ h))))) (by decide +kernel))
set_option maxRecDepth 20000 in
theorem gv_k_X16_ground_2 : GoodIn vs_k_X16_ground (wsV RX16 87 RX16 yX16_fails vs_k_X16_fails_1_1) := goodIn_app (goodIn_sub (by decide +kernel) (by decide +kernel)) (goodIn_sub (fun _ h => List.mem_cons_of_mem _ (List.mem_append_right _ (List.mem_append_right _ (List.mem_append_right _ (List.mem_append_left _ h))))) (by decide +kernel))
set_option maxRecDepth 20000 in
theorem gv_k_X16_ground_3 : GoodIn vs_k_X16_ground (va_wsS RX16 72 yX16_in vs_k_X16_in) := goodIn_app (goodIn_sub (by decide +kernel) (by decide +kernel)) (goodIn_sub (fun _ h => List.mem_cons_of_mem _ (List.mem_append_right _ (List.mem_append_right _ (List.mem_append_left _ h)))) (by decide +kernel))
set_option maxRecDepth 20000 in
theorem gv_k_X16_ground_4 : GoodIn vs_k_X16_ground (wsV RX16 87 RX16 yX16_fails vs_k_X16_fails_1_1) := goodIn_app (goodIn_sub (by decide +kernel) (by decide +kernel)) (goodIn_sub (fun _ h => List.mem_cons_of_mem _ (List.mem_append_right _ (List.mem_append_right _ (List.mem_append_right _ (List.mem_append_left _ h))))) (by decide +kernel))
set_option maxRecDepth 20000 in
theorem gv_k_X16_ground_5 : GoodIn vs_k_X16_ground (wsV RX16 87 RX16 yX16_fails vs_k_X16_fails_1_1) := goodIn_app (goodIn_sub (by decide +kernel) (by decide +kernel)) (goodIn_sub (fun _ h => List.mem_cons_of_mem _ (List.mem_append_right _ (List.mem_append_right _ (List.mem_append_right _ (List.mem_append_left _ h))))) (by decide +kernel))
set_option maxRecDepth 20000 in
theorem gv_k_X16_ground_6 : GoodIn vs_k_X16_ground (wsV RX16 87 RX16 yX16_fails vs_k_X16_fails_0_1) := goodIn_app (goodIn_sub (by decide +kernel) (by decide +kernel)) (goodIn_sub (fun _ h => List.mem_cons_of_mem _ (List.mem_append_right _ (List.mem_append_right _ (List.mem_append_right _ (List.mem_append_right _ (List.mem_append_left _ h)))))) (by decide +kernel))
set_option maxRecDepth 20000 in
theorem gv_k_X16_ground_7 : GoodIn vs_k_X16_ground (wsV RX16 167 RJx4a65c yJx4a65c_iterator_32c93 vs_k_iterator) := goodIn_app (goodIn_sub (by decide +kernel) (by decide +kernel)) (goodIn_sub (fun _ h => List.mem_cons_of_mem _ (List.mem_append_right _ (List.mem_append_right _ (List.mem_append_right _ (List.mem_append_right _ (List.mem_append_right _ (List.mem_append_left _ h))))))) (by decide +kernel))
set_option maxRecDepth 20000 in
theorem gv_k_X16_ground_8 : GoodIn vs_k_X16_ground (va_wsF RX16 171 RJx35411 ⟨"java/util/Iterator", "hasNext", "()Z"⟩ yJx35411_hasNext_aae02 vs_k_hasNext) := goodIn_app (goodIn_sub (by decide +kernel) (by decide +kernel)) (goodIn_sub (fun _ h => List.mem_cons_of_mem _ (List.mem_append_right _ (List.mem_append_right _ (List.mem_append_right _ (List.mem_append_right _ (List.mem_append_right _ (List.mem_append_right _ (List.mem_append_left _ h)))))))) (by decide +kernel))
set_option maxRecDepth 20000 in
theorem gv_k_X16_ground_9 : GoodIn vs_k_X16_ground (wsV RX16 76 RJx4a65c yJx4a65c_size_8abf5 vs_k_size) := goodIn_app (goodIn_sub (by decide +kernel) (by decide +kernel)) (goodIn_sub (fun _ h => List.mem_cons_of_mem _ (List.mem_append_right _ (List.mem_append_right _ (List.mem_append_right _ (List.mem_append_right _ (List.mem_append_right _ (List.mem_append_right _ (List.mem_append_right _ (List.mem_append_left _ h))))))))) (by decide +kernel))
set_option maxRecDepth 20000 in
theorem gv_k_X16_ground_10 : GoodIn vs_k_X16_ground (wsV RX16 87 RX16 yX16_fails vs_k_X16_fails_0_2) := goodIn_app (goodIn_sub (by decide +kernel) (by decide +kernel)) (goodIn_sub (fun _ h => List.mem_cons_of_mem _ (List.mem_append_right _ (List.mem_append_right _ (List.mem_append_right _ (List.mem_append_right _ (List.mem_append_right _ (List.mem_append_right _ (List.mem_append_right _ (List.mem_append_right _ (List.mem_append_left _ h)))))))))) (by decide +kernel))
set_option maxRecDepth 20000 in
theorem gv_k_X16_ground_11 : GoodIn vs_k_X16_ground (wsV RX16 94 RJx4a65c yJx4a65c_add_9ea2d vs_k_add1_ints) := goodIn_app (goodIn_sub (by decide +kernel) (by decide +kernel)) (goodIn_sub (fun _ h => List.mem_cons_of_mem _ (List.mem_append_right _ (List.mem_append_right _ (List.mem_append_right _ (List.mem_append_right _ (List.mem_append_right _ (List.mem_append_right _ (List.mem_append_right _ (List.mem_append_right _ (List.mem_append_right _ (List.mem_append_left _ h))))))))))) (by decide +kernel))
set_option maxRecDepth 20000 in
theorem gv_k_X16_ground_12 : GoodIn vs_k_X16_ground (wsV RX16 91 RX16 yX16_change vs_k_X16_change) := goodIn_app (goodIn_sub (by decide +kernel) (by decide +kernel)) (goodIn_sub (fun _ h => List.mem_cons_of_mem _ (List.mem_append_right _ (List.mem_append_right _ (List.mem_append_right _ (List.mem_append_right _ (List.mem_append_right _ (List.mem_append_right _ (List.mem_append_right _ (List.mem_append_right _ (List.mem_append_right _ (List.mem_append_right _ (h)))))))))))) (by decide +kernel))
set_option maxRecDepth 20000 in
theorem gv_k_X16_ground_13 : GoodIn vs_k_X16_ground (wsV RX16 76 RJx4a65c yJx4a65c_size_8abf5 vs_k_size) := goodIn_app (goodIn_sub (by decide +kernel) (by decide +kernel)) (goodIn_sub (fun _ h => List.mem_cons_of_mem _ (List.mem_append_right _ (List.mem_append_right _ (List.mem_append_right _ (List.mem_append_right _ (List.mem_append_right _ (List.mem_append_right _ (List.mem_append_right _ (List.mem_append_left _ h))))))))) (by decide +kernel))
set_option maxHeartbeats 4000000 in
set_option maxRecDepth 100000 in
theorem k_X16_ground (l : Launch) (D : va_G) (ty : Nat → ClassId) (td mi sz : Nat) (m0 : Nat) (m1 : Nat) (m2 : Nat) (m3 : Nat) (m4 : Nat) (m5 : Nat) (m6 : Nat) (m7 : Nat) (m8 : Nat) (m9 : Nat) (m10 : Nat) (m11 : Nat) (m12 : Nat) (m13 : Nat) (m14 : Nat) (m15 : Nat) (m16 : Nat) (k1 : Int32) (k2 : Int32) : Met l yX16_ground vs_k_X16_ground { frames := 5, cells := 3, slots := 16, locals := 101 } (va_Pc [.ref m0, .int k1, .int k2] (wq_P D ty td mi [(m0, .inr (20, [.int 0, .int 0, .ref m1, .ref m2, .ref m3, .int 0, .ref m4, .ref m5, .ref m6, .int 0, .ref m7, .ref m8, .ref m9, .int 0, .ref m10, .int 0, .ref m11, .ref m12, .ref m13, .int 0, .ref m14, .int 0, .int 0, .int 0, .ref m15, .ref m16])), (m3, .inr (4, [.int 0, .ref td, .int 0]))] sz)) (va_Qi (fun (r : Int32) (u : va_W) => (r = 0 ∧ (k1 < 1) ∧ (u = [(m0, .inr (20, [.int 1, .int 0, .ref m1, .ref m2, .ref m3, .int 0, .ref m4, .ref m5, .ref m6, .int 0, .ref m7, .ref m8, .ref m9, .int 0, .ref m10, .int 0, .ref m11, .ref m12, .ref m13, .int 0, .ref m14, .int 0, .int 0, .int 0, .ref m15, .ref m16]))])) ∨ (r = 0 ∧ (¬ (k1 < 1)) ∧ (3 < k1) ∧ (u = [(m0, .inr (20, [.int 1, .int 0, .ref m1, .ref m2, .ref m3, .int 0, .ref m4, .ref m5, .ref m6, .int 0, .ref m7, .ref m8, .ref m9, .int 0, .ref m10, .int 0, .ref m11, .ref m12, .ref m13, .int 0, .ref m14, .int 0, .int 0, .int 0, .ref m15, .ref m16]))])) ∨ (r = 0 ∧ (¬ (k1 < 1)) ∧ (¬ (3 < k1)) ∧ (k2 < 0) ∧ (u = [(m0, .inr (20, [.int 1, .int 0, .ref m1, .ref m2, .ref m3, .int 0, .ref m4, .ref m5, .ref m6, .int 0, .ref m7, .ref m8, .ref m9, .int 0, .ref m10, .int 0, .ref m11, .ref m12, .ref m13, .int 0, .ref m14, .int 0, .int 0, .int 0, .ref m15, .ref m16]))])) ∨ (r = 0 ∧ (¬ (k1 < 1)) ∧ (¬ (3 < k1)) ∧ (¬ (k2 < 0)) ∧ (7 < k2) ∧ (u = [(m0, .inr (20, [.int 1, .int 0, .ref m1, .ref m2, .ref m3, .int 0, .ref m4, .ref m5, .ref m6, .int 0, .ref m7, .ref m8, .ref m9, .int 0, .ref m10, .int 0, .ref m11, .ref m12, .ref m13, .int 0, .ref m14, .int 0, .int 0, .int 0, .ref m15, .ref m16]))])) ∨ (r = 1 ∧ (¬ (k1 < 1)) ∧ (¬ (3 < k1)) ∧ (¬ (k2 < 0)) ∧ (¬ (7 < k2)) ∧ (u = [(m0, .inr (20, [.int 0, .int 0, .ref m1, .ref m2, .ref m3, .int 0, .ref m4, .ref m5, .ref m6, .int 0, .ref m7, .ref m8, .ref m9, .int 0, .ref m10, .int 0, .ref m11, .ref m12, .ref m13, .int 0, .ref m14, .int 0, .int 0, .int 0, .ref m15, .ref m16]))]))) (wq_B D (va_A [(m0, .inr (20, [.int 0, .int 0, .ref m1, .ref m2, .ref m3, .int 0, .ref m4, .ref m5, .ref m6, .int 0, .ref m7, .ref m8, .ref m9, .int 0, .ref m10, .int 0, .ref m11, .ref m12, .ref m13, .int 0, .ref m14, .int 0, .int 0, .int 0, .ref m15, .ref m16])), (m3, .inr (4, [.int 0, .ref td, .int 0]))] sz)) (va_A [(m0, .inr (20, [.int 0, .int 0, .ref m1, .ref m2, .ref m3, .int 0, .ref m4, .ref m5, .ref m6, .int 0, .ref m7, .ref m8, .ref m9, .int 0, .ref m10, .int 0, .ref m11, .ref m12, .ref m13, .int 0, .ref m14, .int 0, .int 0, .int 0, .ref m15, .ref m16])), (m3, .inr (4, [.int 0, .ref td, .int 0]))] sz)) 3 16 (va_A [(m0, .inr (20, [.int 0, .int 0, .ref m1, .ref m2, .ref m3, .int 0, .ref m4, .ref m5, .ref m6, .int 0, .ref m7, .ref m8, .ref m9, .int 0, .ref m10, .int 0, .ref m11, .ref m12, .ref m13, .int 0, .ref m14, .int 0, .int 0, .int 0, .ref m15, .ref m16])), (m3, .inr (4, [.int 0, .ref td, .int 0]))] sz) := by
  refine Met.ofW (cc := cX16_ground) (maxL := 6) (ret := (some .int)) (by decide) rfl ?_
  intro p e s m args below meth c s₁ B hml hv
  obtain ⟨rfl, hsz, hP, hK, hD0, hE⟩ := hv
  have hx := B.exec
  have hb := B.bytes
  have hr := B.returns
  have hts := atoms_spec (ws := vs_k_X16_ground) B.pre
  have hown : s.vm.findClass RX16 = some m.cls := findClass_of_methodNamed B.named
  have hlocks := B.notSynchronized
  subst hsz
  have hD := hD0.self (sz := s.heap.size)
  generalize hAe : va_A [(m0, .inr (20, [.int 0, .int 0, .ref m1, .ref m2, .ref m3, .int 0, .ref m4, .ref m5, .ref m6, .int 0, .ref m7, .ref m8, .ref m9, .int 0, .ref m10, .int 0, .ref m11, .ref m12, .ref m13, .int 0, .ref m14, .int 0, .int 0, .int 0, .ref m15, .ref m16])), (m3, .inr (4, [.int 0, .ref td, .int 0]))] s.heap.size = A at hD hE ⊢
  have hA : ∀ q : Nat, s.heap.size ≤ q → A q := fun q h => by rw [← hAe]; exact Or.inr h
  have hS : va_S A s.heap s.heap [] := va_S.rf
  have hP : va_P D vwCl [(m0, .inr (20, [.int 0, .int 0, .ref m1, .ref m2, .ref m3, .int 0, .ref m4, .ref m5, .ref m6, .int 0, .ref m7, .ref m8, .ref m9, .int 0, .ref m10, .int 0, .ref m11, .ref m12, .ref m13, .int 0, .ref m14, .int 0, .int 0, .int 0, .ref m15, .ref m16])), (m3, .inr (4, [.int 0, .ref td, .int 0]))] s.heap := hP
  have hl := lv_entry ([.ref m0, .int k1, .int k2]) (n := 6) (Nat.le_of_ble_eq_true rfl)
  rw [lg_entry_eq]
  generalize (lg_sl ([.ref m0, .int k1, .int k2]) ++ List.replicate (6 - (lg_sl ([.ref m0, .int k1, .int k2])).length) Slot.unset).toArray = ls at hl ⊢
  have hl : lv_has ls 6 [(0, .ref m0), (1, .int k1), (2, .int k2)] := hl
  refine lv_aload_n hx hb dX16_ground_0 rfl (lv_at hl 0 rfl) ?_
  refine lv_iconst (v := 0) hx hb dX16_ground_1 (by decide) ?_
  refine va_put (D := D) (ci := 20) (v := .int 0) (ty := tyX16 0) (C := RX16) (T := TX16) (N := 26) hx hb hts iv_k_X16_ground_X16 tyX16 tyX16_ok nmX16 hown hK hP hD hS 0 rfl rfl 0 (by decide) (hts (.fieldLink RX16 65 "AnswerFoldModel" "thrown" "I") (by decide +kernel)) (fun _ h9 => h9) rfl (by decide +kernel) rfl rfl (Nat.le_of_ble_eq_true rfl) dX16_ground_2 (fun H locs hP hD hS => ?_)
  have hP : va_P D vwCl [(m0, .inr (20, [.int 0, .int 0, .ref m1, .ref m2, .ref m3, .int 0, .ref m4, .ref m5, .ref m6, .int 0, .ref m7, .ref m8, .ref m9, .int 0, .ref m10, .int 0, .ref m11, .ref m12, .ref m13, .int 0, .ref m14, .int 0, .int 0, .int 0, .ref m15, .ref m16])), (m3, .inr (4, [.int 0, .ref td, .int 0]))] H := hP
  have hD : va_D A [(m0, .inr (20, [.int 0, .int 0, .ref m1, .ref m2, .ref m3, .int 0, .ref m4, .ref m5, .ref m6, .int 0, .ref m7, .ref m8, .ref m9, .int 0, .ref m10, .int 0, .ref m11, .ref m12, .ref m13, .int 0, .ref m14, .int 0, .int 0, .int 0, .ref m15, .ref m16])), (m3, .inr (4, [.int 0, .ref td, .int 0]))] := hD
  refine lv_aload_n hx hb dX16_ground_5 rfl (lv_at hl 0 rfl) ?_
  refine lv_iload_n hx hb dX16_ground_6 rfl (lv_at hl 1 rfl) ?_
  refine lv_iconst (v := 1) hx hb dX16_ground_7 (by decide) ?_
  refine lv_iconst (v := 3) hx hb dX16_ground_8 (by decide) ?_
  refine wq_i (wc := []) (wr := [(m0, .inr (20, [.int 0, .int 0, .ref m1, .ref m2, .ref m3, .int 0, .ref m4, .ref m5, .ref m6, .int 0, .ref m7, .ref m8, .ref m9, .int 0, .ref m10, .int 0, .ref m11, .ref m12, .ref m13, .int 0, .ref m14, .int 0, .int 0, .int 0, .ref m15, .ref m16])), (m3, .inr (4, [.int 0, .ref td, .int 0]))]) (va_runS (As := [.int k1, .int 1, .int 3]) (rest := [.ref m0]) ⟨hx, hb, hml, hown, hts⟩ (k_X16_in l D ty td mi H.size k1 1 3) (va_cwS 3 hts gv_k_X16_ground_0 rfl rfl rfl (by decide +kernel) ⟨(Nat.le_of_ble_eq_true rfl), (Nat.le_of_ble_eq_true rfl)⟩) (wq_preS hP hD hK hE hS hA [] rfl (by decide)) rfl rfl hl.1 rfl (lv_room (Nat.le_of_ble_eq_true rfl)) dX16_ground_9 ⟨(Nat.le_of_ble_eq_true rfl), (Nat.le_of_ble_eq_true rfl)⟩) hS hA hP hD [] [0, 1] rfl rfl (by decide) (by decide) (fun r u H locs hw hP hD hS => ?_)
  rcases hw with ⟨rfl, c_1, rfl⟩ | ⟨rfl, c_2, c_3, rfl⟩ | ⟨rfl, c_4, c_5, rfl⟩
  · have hP : va_P D vwCl [(m0, .inr (20, [.int 0, .int 0, .ref m1, .ref m2, .ref m3, .int 0, .ref m4, .ref m5, .ref m6, .int 0, .ref m7, .ref m8, .ref m9, .int 0, .ref m10, .int 0, .ref m11, .ref m12, .ref m13, .int 0, .ref m14, .int 0, .int 0, .int 0, .ref m15, .ref m16])), (m3, .inr (4, [.int 0, .ref td, .int 0]))] H := hP
    have hD : va_D A [(m0, .inr (20, [.int 0, .int 0, .ref m1, .ref m2, .ref m3, .int 0, .ref m4, .ref m5, .ref m6, .int 0, .ref m7, .ref m8, .ref m9, .int 0, .ref m10, .int 0, .ref m11, .ref m12, .ref m13, .int 0, .ref m14, .int 0, .int 0, .int 0, .ref m15, .ref m16])), (m3, .inr (4, [.int 0, .ref td, .int 0]))] := hD
    refine W.widen (k := 0) (n := 0) (Nat.le_of_ble_eq_true rfl) (Nat.le_of_ble_eq_true rfl) ?_
    refine lv_if_eq (tgt := 25) hx hb dX16_ground_12 (by decide) (fun _ => ?_) (fun c0 => absurd (by decide) c0)
    refine lv_iconst (v := 1) hx hb dX16_ground_25 (by decide) ?_
    refine lv_goto (tgt := 30) hx hb dX16_ground_26 (by decide) ?_
    refine lv_iconst (v := 1) hx hb dX16_ground_30 (by decide) ?_
    refine wq_i (wc := [(m0, .inr (20, [.int 0, .int 0, .ref m1, .ref m2, .ref m3, .int 0, .ref m4, .ref m5, .ref m6, .int 0, .ref m7, .ref m8, .ref m9, .int 0, .ref m10, .int 0, .ref m11, .ref m12, .ref m13, .int 0, .ref m14, .int 0, .int 0, .int 0, .ref m15, .ref m16]))]) (wr := [(m3, .inr (4, [.int 0, .ref td, .int 0]))]) (va_runV (As := [.int 1, .int 1]) (rest := []) ⟨hx, hb, hml, hown, hts⟩ (k_X16_fails_1_1 l D ty td mi H.size m0 m1 m2 m3 m4 m5 m6 m7 m8 m9 m10 m11 m12 m13 m14 m15 m16 0) (cwV 2 hts gv_k_X16_ground_1 rfl rfl rfl (by decide +kernel) ⟨(Nat.le_of_ble_eq_true rfl), (Nat.le_of_ble_eq_true rfl)⟩) (wq_preV hP hD hK hE hS hA [0] rfl (by decide) 0 20 rfl rfl) rfl rfl hl.1 rfl (lv_room (Nat.le_of_ble_eq_true rfl)) dX16_ground_31 ⟨(Nat.le_of_ble_eq_true rfl), (Nat.le_of_ble_eq_true rfl)⟩) hS hA hP hD [0] [1] rfl rfl (by decide) (by decide) (fun r u H locs hw hP hD hS => ?_)
    obtain ⟨rfl, rfl⟩ := hw
    have hP : va_P D vwCl [(m3, .inr (4, [.int 0, .ref td, .int 0])), (m0, .inr (20, [.int 1, .int 0, .ref m1, .ref m2, .ref m3, .int 0, .ref m4, .ref m5, .ref m6, .int 0, .ref m7, .ref m8, .ref m9, .int 0, .ref m10, .int 0, .ref m11, .ref m12, .ref m13, .int 0, .ref m14, .int 0, .int 0, .int 0, .ref m15, .ref m16]))] H := hP
    have hD : va_D A [(m3, .inr (4, [.int 0, .ref td, .int 0])), (m0, .inr (20, [.int 1, .int 0, .ref m1, .ref m2, .ref m3, .int 0, .ref m4, .ref m5, .ref m6, .int 0, .ref m7, .ref m8, .ref m9, .int 0, .ref m10, .int 0, .ref m11, .ref m12, .ref m13, .int 0, .ref m14, .int 0, .int 0, .int 0, .ref m15, .ref m16]))] := hD
    refine W.widen (k := 0) (n := 0) (Nat.le_of_ble_eq_true rfl) (Nat.le_of_ble_eq_true rfl) ?_
    refine lv_if_eq (tgt := 39) hx hb dX16_ground_34 (by decide) (fun c0 => absurd c0 (by decide)) (fun _ => ?_)
    refine lv_iconst (v := 0) hx hb dX16_ground_37 (by decide) ?_
    have hP9 := hP.sub (ws' := [(m0, .inr (20, [.int 1, .int 0, .ref m1, .ref m2, .ref m3, .int 0, .ref m4, .ref m5, .ref m6, .int 0, .ref m7, .ref m8, .ref m9, .int 0, .ref m10, .int 0, .ref m11, .ref m12, .ref m13, .int 0, .ref m14, .int 0, .int 0, .int 0, .ref m15, .ref m16]))]) [1] rfl
    have hD9 := hD.sub (ws' := [(m0, .inr (20, [.int 1, .int 0, .ref m1, .ref m2, .ref m3, .int 0, .ref m4, .ref m5, .ref m6, .int 0, .ref m7, .ref m8, .ref m9, .int 0, .ref m10, .int 0, .ref m11, .ref m12, .ref m13, .int 0, .ref m14, .int 0, .int 0, .int 0, .ref m15, .ref m16]))]) [1] (by decide) rfl
    refine W.widen (k := 3) (n := 16) (Nat.le_of_ble_eq_true rfl) (Nat.le_of_ble_eq_true rfl) ?_
    exact W.iret (v := 0) hx hb hr (fun t ht hW => ⟨⟨0, [(m0, .inr (20, [.int 1, .int 0, .ref m1, .ref m2, .ref m3, .int 0, .ref m4, .ref m5, .ref m6, .int 0, .ref m7, .ref m8, .ref m9, .int 0, .ref m10, .int 0, .ref m11, .ref m12, .ref m13, .int 0, .ref m14, .int 0, .int 0, .int 0, .ref m15, .ref m16]))], rfl, (Or.inl ⟨rfl, c_1, rfl⟩), wq_B.of ht hP9 hD9⟩, hS.F ht⟩) hS.2.2 dX16_ground_38
  · have hP : va_P D vwCl [(m0, .inr (20, [.int 0, .int 0, .ref m1, .ref m2, .ref m3, .int 0, .ref m4, .ref m5, .ref m6, .int 0, .ref m7, .ref m8, .ref m9, .int 0, .ref m10, .int 0, .ref m11, .ref m12, .ref m13, .int 0, .ref m14, .int 0, .int 0, .int 0, .ref m15, .ref m16])), (m3, .inr (4, [.int 0, .ref td, .int 0]))] H := hP
    have hD : va_D A [(m0, .inr (20, [.int 0, .int 0, .ref m1, .ref m2, .ref m3, .int 0, .ref m4, .ref m5, .ref m6, .int 0, .ref m7, .ref m8, .ref m9, .int 0, .ref m10, .int 0, .ref m11, .ref m12, .ref m13, .int 0, .ref m14, .int 0, .int 0, .int 0, .ref m15, .ref m16])), (m3, .inr (4, [.int 0, .ref td, .int 0]))] := hD
    refine W.widen (k := 0) (n := 0) (Nat.le_of_ble_eq_true rfl) (Nat.le_of_ble_eq_true rfl) ?_
    refine lv_if_eq (tgt := 25) hx hb dX16_ground_12 (by decide) (fun _ => ?_) (fun c0 => absurd (by decide) c0)
    refine lv_iconst (v := 1) hx hb dX16_ground_25 (by decide) ?_
    refine lv_goto (tgt := 30) hx hb dX16_ground_26 (by decide) ?_
    refine lv_iconst (v := 1) hx hb dX16_ground_30 (by decide) ?_
    refine wq_i (wc := [(m0, .inr (20, [.int 0, .int 0, .ref m1, .ref m2, .ref m3, .int 0, .ref m4, .ref m5, .ref m6, .int 0, .ref m7, .ref m8, .ref m9, .int 0, .ref m10, .int 0, .ref m11, .ref m12, .ref m13, .int 0, .ref m14, .int 0, .int 0, .int 0, .ref m15, .ref m16]))]) (wr := [(m3, .inr (4, [.int 0, .ref td, .int 0]))]) (va_runV (As := [.int 1, .int 1]) (rest := []) ⟨hx, hb, hml, hown, hts⟩ (k_X16_fails_1_1 l D ty td mi H.size m0 m1 m2 m3 m4 m5 m6 m7 m8 m9 m10 m11 m12 m13 m14 m15 m16 0) (cwV 2 hts gv_k_X16_ground_2 rfl rfl rfl (by decide +kernel) ⟨(Nat.le_of_ble_eq_true rfl), (Nat.le_of_ble_eq_true rfl)⟩) (wq_preV hP hD hK hE hS hA [0] rfl (by decide) 0 20 rfl rfl) rfl rfl hl.1 rfl (lv_room (Nat.le_of_ble_eq_true rfl)) dX16_ground_31 ⟨(Nat.le_of_ble_eq_true rfl), (Nat.le_of_ble_eq_true rfl)⟩) hS hA hP hD [0] [1] rfl rfl (by decide) (by decide) (fun r u H locs hw hP hD hS => ?_)
    obtain ⟨rfl, rfl⟩ := hw
    have hP : va_P D vwCl [(m3, .inr (4, [.int 0, .ref td, .int 0])), (m0, .inr (20, [.int 1, .int 0, .ref m1, .ref m2, .ref m3, .int 0, .ref m4, .ref m5, .ref m6, .int 0, .ref m7, .ref m8, .ref m9, .int 0, .ref m10, .int 0, .ref m11, .ref m12, .ref m13, .int 0, .ref m14, .int 0, .int 0, .int 0, .ref m15, .ref m16]))] H := hP
    have hD : va_D A [(m3, .inr (4, [.int 0, .ref td, .int 0])), (m0, .inr (20, [.int 1, .int 0, .ref m1, .ref m2, .ref m3, .int 0, .ref m4, .ref m5, .ref m6, .int 0, .ref m7, .ref m8, .ref m9, .int 0, .ref m10, .int 0, .ref m11, .ref m12, .ref m13, .int 0, .ref m14, .int 0, .int 0, .int 0, .ref m15, .ref m16]))] := hD
    refine W.widen (k := 0) (n := 0) (Nat.le_of_ble_eq_true rfl) (Nat.le_of_ble_eq_true rfl) ?_
    refine lv_if_eq (tgt := 39) hx hb dX16_ground_34 (by decide) (fun c0 => absurd c0 (by decide)) (fun _ => ?_)
    refine lv_iconst (v := 0) hx hb dX16_ground_37 (by decide) ?_
    have hP9 := hP.sub (ws' := [(m0, .inr (20, [.int 1, .int 0, .ref m1, .ref m2, .ref m3, .int 0, .ref m4, .ref m5, .ref m6, .int 0, .ref m7, .ref m8, .ref m9, .int 0, .ref m10, .int 0, .ref m11, .ref m12, .ref m13, .int 0, .ref m14, .int 0, .int 0, .int 0, .ref m15, .ref m16]))]) [1] rfl
    have hD9 := hD.sub (ws' := [(m0, .inr (20, [.int 1, .int 0, .ref m1, .ref m2, .ref m3, .int 0, .ref m4, .ref m5, .ref m6, .int 0, .ref m7, .ref m8, .ref m9, .int 0, .ref m10, .int 0, .ref m11, .ref m12, .ref m13, .int 0, .ref m14, .int 0, .int 0, .int 0, .ref m15, .ref m16]))]) [1] (by decide) rfl
    refine W.widen (k := 3) (n := 16) (Nat.le_of_ble_eq_true rfl) (Nat.le_of_ble_eq_true rfl) ?_
    exact W.iret (v := 0) hx hb hr (fun t ht hW => ⟨⟨0, [(m0, .inr (20, [.int 1, .int 0, .ref m1, .ref m2, .ref m3, .int 0, .ref m4, .ref m5, .ref m6, .int 0, .ref m7, .ref m8, .ref m9, .int 0, .ref m10, .int 0, .ref m11, .ref m12, .ref m13, .int 0, .ref m14, .int 0, .int 0, .int 0, .ref m15, .ref m16]))], rfl, (Or.inr (Or.inl ⟨rfl, c_2, c_3, rfl⟩)), wq_B.of ht hP9 hD9⟩, hS.F ht⟩) hS.2.2 dX16_ground_38
  · have hP : va_P D vwCl [(m0, .inr (20, [.int 0, .int 0, .ref m1, .ref m2, .ref m3, .int 0, .ref m4, .ref m5, .ref m6, .int 0, .ref m7, .ref m8, .ref m9, .int 0, .ref m10, .int 0, .ref m11, .ref m12, .ref m13, .int 0, .ref m14, .int 0, .int 0, .int 0, .ref m15, .ref m16])), (m3, .inr (4, [.int 0, .ref td, .int 0]))] H := hP
    have hD : va_D A [(m0, .inr (20, [.int 0, .int 0, .ref m1, .ref m2, .ref m3, .int 0, .ref m4, .ref m5, .ref m6, .int 0, .ref m7, .ref m8, .ref m9, .int 0, .ref m10, .int 0, .ref m11, .ref m12, .ref m13, .int 0, .ref m14, .int 0, .int 0, .int 0, .ref m15, .ref m16])), (m3, .inr (4, [.int 0, .ref td, .int 0]))] := hD
    refine W.widen (k := 0) (n := 0) (Nat.le_of_ble_eq_true rfl) (Nat.le_of_ble_eq_true rfl) ?_
    refine lv_if_eq (tgt := 25) hx hb dX16_ground_12 (by decide) (fun c0 => absurd c0 (by decide)) (fun _ => ?_)
    refine lv_iload_n hx hb dX16_ground_15 rfl (lv_at hl 2 rfl) ?_
    refine lv_iconst (v := 0) hx hb dX16_ground_16 (by decide) ?_
    refine lv_bipush (v := 7) hx hb dX16_ground_17 (by decide) ?_
    refine wq_i (wc := []) (wr := [(m0, .inr (20, [.int 0, .int 0, .ref m1, .ref m2, .ref m3, .int 0, .ref m4, .ref m5, .ref m6, .int 0, .ref m7, .ref m8, .ref m9, .int 0, .ref m10, .int 0, .ref m11, .ref m12, .ref m13, .int 0, .ref m14, .int 0, .int 0, .int 0, .ref m15, .ref m16])), (m3, .inr (4, [.int 0, .ref td, .int 0]))]) (va_runS (As := [.int k2, .int 0, .int 7]) (rest := [.ref m0]) ⟨hx, hb, hml, hown, hts⟩ (k_X16_in l D ty td mi H.size k2 0 7) (va_cwS 3 hts gv_k_X16_ground_3 rfl rfl rfl (by decide +kernel) ⟨(Nat.le_of_ble_eq_true rfl), (Nat.le_of_ble_eq_true rfl)⟩) (wq_preS hP hD hK hE hS hA [] rfl (by decide)) rfl rfl hl.1 rfl (lv_room (Nat.le_of_ble_eq_true rfl)) dX16_ground_19 ⟨(Nat.le_of_ble_eq_true rfl), (Nat.le_of_ble_eq_true rfl)⟩) hS hA hP hD [] [0, 1] rfl rfl (by decide) (by decide) (fun r u H locs hw hP hD hS => ?_)
    rcases hw with ⟨rfl, c_6, rfl⟩ | ⟨rfl, c_7, c_8, rfl⟩ | ⟨rfl, c_9, c_10, rfl⟩
    · have hP : va_P D vwCl [(m0, .inr (20, [.int 0, .int 0, .ref m1, .ref m2, .ref m3, .int 0, .ref m4, .ref m5, .ref m6, .int 0, .ref m7, .ref m8, .ref m9, .int 0, .ref m10, .int 0, .ref m11, .ref m12, .ref m13, .int 0, .ref m14, .int 0, .int 0, .int 0, .ref m15, .ref m16])), (m3, .inr (4, [.int 0, .ref td, .int 0]))] H := hP
      have hD : va_D A [(m0, .inr (20, [.int 0, .int 0, .ref m1, .ref m2, .ref m3, .int 0, .ref m4, .ref m5, .ref m6, .int 0, .ref m7, .ref m8, .ref m9, .int 0, .ref m10, .int 0, .ref m11, .ref m12, .ref m13, .int 0, .ref m14, .int 0, .int 0, .int 0, .ref m15, .ref m16])), (m3, .inr (4, [.int 0, .ref td, .int 0]))] := hD
      refine W.widen (k := 0) (n := 0) (Nat.le_of_ble_eq_true rfl) (Nat.le_of_ble_eq_true rfl) ?_
      refine lv_if_ne (tgt := 29) hx hb dX16_ground_22 (by decide) (fun c0 => absurd (by decide) c0) (fun _ => ?_)
      refine lv_iconst (v := 1) hx hb dX16_ground_25 (by decide) ?_
      refine lv_goto (tgt := 30) hx hb dX16_ground_26 (by decide) ?_
      refine lv_iconst (v := 1) hx hb dX16_ground_30 (by decide) ?_
      refine wq_i (wc := [(m0, .inr (20, [.int 0, .int 0, .ref m1, .ref m2, .ref m3, .int 0, .ref m4, .ref m5, .ref m6, .int 0, .ref m7, .ref m8, .ref m9, .int 0, .ref m10, .int 0, .ref m11, .ref m12, .ref m13, .int 0, .ref m14, .int 0, .int 0, .int 0, .ref m15, .ref m16]))]) (wr := [(m3, .inr (4, [.int 0, .ref td, .int 0]))]) (va_runV (As := [.int 1, .int 1]) (rest := []) ⟨hx, hb, hml, hown, hts⟩ (k_X16_fails_1_1 l D ty td mi H.size m0 m1 m2 m3 m4 m5 m6 m7 m8 m9 m10 m11 m12 m13 m14 m15 m16 0) (cwV 2 hts gv_k_X16_ground_4 rfl rfl rfl (by decide +kernel) ⟨(Nat.le_of_ble_eq_true rfl), (Nat.le_of_ble_eq_true rfl)⟩) (wq_preV hP hD hK hE hS hA [0] rfl (by decide) 0 20 rfl rfl) rfl rfl hl.1 rfl (lv_room (Nat.le_of_ble_eq_true rfl)) dX16_ground_31 ⟨(Nat.le_of_ble_eq_true rfl), (Nat.le_of_ble_eq_true rfl)⟩) hS hA hP hD [0] [1] rfl rfl (by decide) (by decide) (fun r u H locs hw hP hD hS => ?_)
      obtain ⟨rfl, rfl⟩ := hw
      have hP : va_P D vwCl [(m3, .inr (4, [.int 0, .ref td, .int 0])), (m0, .inr (20, [.int 1, .int 0, .ref m1, .ref m2, .ref m3, .int 0, .ref m4, .ref m5, .ref m6, .int 0, .ref m7, .ref m8, .ref m9, .int 0, .ref m10, .int 0, .ref m11, .ref m12, .ref m13, .int 0, .ref m14, .int 0, .int 0, .int 0, .ref m15, .ref m16]))] H := hP
      have hD : va_D A [(m3, .inr (4, [.int 0, .ref td, .int 0])), (m0, .inr (20, [.int 1, .int 0, .ref m1, .ref m2, .ref m3, .int 0, .ref m4, .ref m5, .ref m6, .int 0, .ref m7, .ref m8, .ref m9, .int 0, .ref m10, .int 0, .ref m11, .ref m12, .ref m13, .int 0, .ref m14, .int 0, .int 0, .int 0, .ref m15, .ref m16]))] := hD
      refine W.widen (k := 0) (n := 0) (Nat.le_of_ble_eq_true rfl) (Nat.le_of_ble_eq_true rfl) ?_
      refine lv_if_eq (tgt := 39) hx hb dX16_ground_34 (by decide) (fun c0 => absurd c0 (by decide)) (fun _ => ?_)
      refine lv_iconst (v := 0) hx hb dX16_ground_37 (by decide) ?_
      have hP9 := hP.sub (ws' := [(m0, .inr (20, [.int 1, .int 0, .ref m1, .ref m2, .ref m3, .int 0, .ref m4, .ref m5, .ref m6, .int 0, .ref m7, .ref m8, .ref m9, .int 0, .ref m10, .int 0, .ref m11, .ref m12, .ref m13, .int 0, .ref m14, .int 0, .int 0, .int 0, .ref m15, .ref m16]))]) [1] rfl
      have hD9 := hD.sub (ws' := [(m0, .inr (20, [.int 1, .int 0, .ref m1, .ref m2, .ref m3, .int 0, .ref m4, .ref m5, .ref m6, .int 0, .ref m7, .ref m8, .ref m9, .int 0, .ref m10, .int 0, .ref m11, .ref m12, .ref m13, .int 0, .ref m14, .int 0, .int 0, .int 0, .ref m15, .ref m16]))]) [1] (by decide) rfl
      refine W.widen (k := 3) (n := 16) (Nat.le_of_ble_eq_true rfl) (Nat.le_of_ble_eq_true rfl) ?_
      exact W.iret (v := 0) hx hb hr (fun t ht hW => ⟨⟨0, [(m0, .inr (20, [.int 1, .int 0, .ref m1, .ref m2, .ref m3, .int 0, .ref m4, .ref m5, .ref m6, .int 0, .ref m7, .ref m8, .ref m9, .int 0, .ref m10, .int 0, .ref m11, .ref m12, .ref m13, .int 0, .ref m14, .int 0, .int 0, .int 0, .ref m15, .ref m16]))], rfl, (Or.inr (Or.inr (Or.inl ⟨rfl, c_4, c_5, c_6, rfl⟩))), wq_B.of ht hP9 hD9⟩, hS.F ht⟩) hS.2.2 dX16_ground_38
    · have hP : va_P D vwCl [(m0, .inr (20, [.int 0, .int 0, .ref m1, .ref m2, .ref m3, .int 0, .ref m4, .ref m5, .ref m6, .int 0, .ref m7, .ref m8, .ref m9, .int 0, .ref m10, .int 0, .ref m11, .ref m12, .ref m13, .int 0, .ref m14, .int 0, .int 0, .int 0, .ref m15, .ref m16])), (m3, .inr (4, [.int 0, .ref td, .int 0]))] H := hP
      have hD : va_D A [(m0, .inr (20, [.int 0, .int 0, .ref m1, .ref m2, .ref m3, .int 0, .ref m4, .ref m5, .ref m6, .int 0, .ref m7, .ref m8, .ref m9, .int 0, .ref m10, .int 0, .ref m11, .ref m12, .ref m13, .int 0, .ref m14, .int 0, .int 0, .int 0, .ref m15, .ref m16])), (m3, .inr (4, [.int 0, .ref td, .int 0]))] := hD
      refine W.widen (k := 0) (n := 0) (Nat.le_of_ble_eq_true rfl) (Nat.le_of_ble_eq_true rfl) ?_
      refine lv_if_ne (tgt := 29) hx hb dX16_ground_22 (by decide) (fun c0 => absurd (by decide) c0) (fun _ => ?_)
      refine lv_iconst (v := 1) hx hb dX16_ground_25 (by decide) ?_
      refine lv_goto (tgt := 30) hx hb dX16_ground_26 (by decide) ?_
      refine lv_iconst (v := 1) hx hb dX16_ground_30 (by decide) ?_
      refine wq_i (wc := [(m0, .inr (20, [.int 0, .int 0, .ref m1, .ref m2, .ref m3, .int 0, .ref m4, .ref m5, .ref m6, .int 0, .ref m7, .ref m8, .ref m9, .int 0, .ref m10, .int 0, .ref m11, .ref m12, .ref m13, .int 0, .ref m14, .int 0, .int 0, .int 0, .ref m15, .ref m16]))]) (wr := [(m3, .inr (4, [.int 0, .ref td, .int 0]))]) (va_runV (As := [.int 1, .int 1]) (rest := []) ⟨hx, hb, hml, hown, hts⟩ (k_X16_fails_1_1 l D ty td mi H.size m0 m1 m2 m3 m4 m5 m6 m7 m8 m9 m10 m11 m12 m13 m14 m15 m16 0) (cwV 2 hts gv_k_X16_ground_5 rfl rfl rfl (by decide +kernel) ⟨(Nat.le_of_ble_eq_true rfl), (Nat.le_of_ble_eq_true rfl)⟩) (wq_preV hP hD hK hE hS hA [0] rfl (by decide) 0 20 rfl rfl) rfl rfl hl.1 rfl (lv_room (Nat.le_of_ble_eq_true rfl)) dX16_ground_31 ⟨(Nat.le_of_ble_eq_true rfl), (Nat.le_of_ble_eq_true rfl)⟩) hS hA hP hD [0] [1] rfl rfl (by decide) (by decide) (fun r u H locs hw hP hD hS => ?_)
      obtain ⟨rfl, rfl⟩ := hw
      have hP : va_P D vwCl [(m3, .inr (4, [.int 0, .ref td, .int 0])), (m0, .inr (20, [.int 1, .int 0, .ref m1, .ref m2, .ref m3, .int 0, .ref m4, .ref m5, .ref m6, .int 0, .ref m7, .ref m8, .ref m9, .int 0, .ref m10, .int 0, .ref m11, .ref m12, .ref m13, .int 0, .ref m14, .int 0, .int 0, .int 0, .ref m15, .ref m16]))] H := hP
      have hD : va_D A [(m3, .inr (4, [.int 0, .ref td, .int 0])), (m0, .inr (20, [.int 1, .int 0, .ref m1, .ref m2, .ref m3, .int 0, .ref m4, .ref m5, .ref m6, .int 0, .ref m7, .ref m8, .ref m9, .int 0, .ref m10, .int 0, .ref m11, .ref m12, .ref m13, .int 0, .ref m14, .int 0, .int 0, .int 0, .ref m15, .ref m16]))] := hD
      refine W.widen (k := 0) (n := 0) (Nat.le_of_ble_eq_true rfl) (Nat.le_of_ble_eq_true rfl) ?_
      refine lv_if_eq (tgt := 39) hx hb dX16_ground_34 (by decide) (fun c0 => absurd c0 (by decide)) (fun _ => ?_)
      refine lv_iconst (v := 0) hx hb dX16_ground_37 (by decide) ?_
      have hP9 := hP.sub (ws' := [(m0, .inr (20, [.int 1, .int 0, .ref m1, .ref m2, .ref m3, .int 0, .ref m4, .ref m5, .ref m6, .int 0, .ref m7, .ref m8, .ref m9, .int 0, .ref m10, .int 0, .ref m11, .ref m12, .ref m13, .int 0, .ref m14, .int 0, .int 0, .int 0, .ref m15, .ref m16]))]) [1] rfl
      have hD9 := hD.sub (ws' := [(m0, .inr (20, [.int 1, .int 0, .ref m1, .ref m2, .ref m3, .int 0, .ref m4, .ref m5, .ref m6, .int 0, .ref m7, .ref m8, .ref m9, .int 0, .ref m10, .int 0, .ref m11, .ref m12, .ref m13, .int 0, .ref m14, .int 0, .int 0, .int 0, .ref m15, .ref m16]))]) [1] (by decide) rfl
      refine W.widen (k := 3) (n := 16) (Nat.le_of_ble_eq_true rfl) (Nat.le_of_ble_eq_true rfl) ?_
      exact W.iret (v := 0) hx hb hr (fun t ht hW => ⟨⟨0, [(m0, .inr (20, [.int 1, .int 0, .ref m1, .ref m2, .ref m3, .int 0, .ref m4, .ref m5, .ref m6, .int 0, .ref m7, .ref m8, .ref m9, .int 0, .ref m10, .int 0, .ref m11, .ref m12, .ref m13, .int 0, .ref m14, .int 0, .int 0, .int 0, .ref m15, .ref m16]))], rfl, (Or.inr (Or.inr (Or.inr (Or.inl ⟨rfl, c_4, c_5, c_7, c_8, rfl⟩)))), wq_B.of ht hP9 hD9⟩, hS.F ht⟩) hS.2.2 dX16_ground_38
    · have hP : va_P D vwCl [(m0, .inr (20, [.int 0, .int 0, .ref m1, .ref m2, .ref m3, .int 0, .ref m4, .ref m5, .ref m6, .int 0, .ref m7, .ref m8, .ref m9, .int 0, .ref m10, .int 0, .ref m11, .ref m12, .ref m13, .int 0, .ref m14, .int 0, .int 0, .int 0, .ref m15, .ref m16])), (m3, .inr (4, [.int 0, .ref td, .int 0]))] H := hP
      have hD : va_D A [(m0, .inr (20, [.int 0, .int 0, .ref m1, .ref m2, .ref m3, .int 0, .ref m4, .ref m5, .ref m6, .int 0, .ref m7, .ref m8, .ref m9, .int 0, .ref m10, .int 0, .ref m11, .ref m12, .ref m13, .int 0, .ref m14, .int 0, .int 0, .int 0, .ref m15, .ref m16])), (m3, .inr (4, [.int 0, .ref td, .int 0]))] := hD
      refine W.widen (k := 0) (n := 0) (Nat.le_of_ble_eq_true rfl) (Nat.le_of_ble_eq_true rfl) ?_
      refine lv_if_ne (tgt := 29) hx hb dX16_ground_22 (by decide) (fun _ => ?_) (fun c0 => absurd c0 (by decide))
      refine lv_iconst (v := 0) hx hb dX16_ground_29 (by decide) ?_
      refine lv_iconst (v := 1) hx hb dX16_ground_30 (by decide) ?_
      refine wq_i (wc := [(m0, .inr (20, [.int 0, .int 0, .ref m1, .ref m2, .ref m3, .int 0, .ref m4, .ref m5, .ref m6, .int 0, .ref m7, .ref m8, .ref m9, .int 0, .ref m10, .int 0, .ref m11, .ref m12, .ref m13, .int 0, .ref m14, .int 0, .int 0, .int 0, .ref m15, .ref m16]))]) (wr := [(m3, .inr (4, [.int 0, .ref td, .int 0]))]) (va_runV (As := [.int 0, .int 1]) (rest := []) ⟨hx, hb, hml, hown, hts⟩ (k_X16_fails_0_1 l D ty td mi H.size m0 m1 m2 m3 m4 m5 m6 m7 m8 m9 m10 m11 m12 m13 m14 m15 m16 0) (cwV 2 hts gv_k_X16_ground_6 rfl rfl rfl (by decide +kernel) ⟨(Nat.le_of_ble_eq_true rfl), (Nat.le_of_ble_eq_true rfl)⟩) (wq_preV hP hD hK hE hS hA [0] rfl (by decide) 0 20 rfl rfl) rfl rfl hl.1 rfl (lv_room (Nat.le_of_ble_eq_true rfl)) dX16_ground_31 ⟨(Nat.le_of_ble_eq_true rfl), (Nat.le_of_ble_eq_true rfl)⟩) hS hA hP hD [0] [1] rfl rfl (by decide) (by decide) (fun r u H locs hw hP hD hS => ?_)
      obtain ⟨rfl, rfl⟩ := hw
      have hP : va_P D vwCl [(m3, .inr (4, [.int 0, .ref td, .int 0])), (m0, .inr (20, [.int 0, .int 0, .ref m1, .ref m2, .ref m3, .int 0, .ref m4, .ref m5, .ref m6, .int 0, .ref m7, .ref m8, .ref m9, .int 0, .ref m10, .int 0, .ref m11, .ref m12, .ref m13, .int 0, .ref m14, .int 0, .int 0, .int 0, .ref m15, .ref m16]))] H := hP
      have hD : va_D A [(m3, .inr (4, [.int 0, .ref td, .int 0])), (m0, .inr (20, [.int 0, .int 0, .ref m1, .ref m2, .ref m3, .int 0, .ref m4, .ref m5, .ref m6, .int 0, .ref m7, .ref m8, .ref m9, .int 0, .ref m10, .int 0, .ref m11, .ref m12, .ref m13, .int 0, .ref m14, .int 0, .int 0, .int 0, .ref m15, .ref m16]))] := hD
      refine W.widen (k := 0) (n := 0) (Nat.le_of_ble_eq_true rfl) (Nat.le_of_ble_eq_true rfl) ?_
      refine lv_if_eq (tgt := 39) hx hb dX16_ground_34 (by decide) (fun _ => ?_) (fun c0 => absurd (by decide) c0)
      refine lv_iconst (v := 0) hx hb dX16_ground_39 (by decide) ?_
      refine lv_istore_n (lv' := [(3, .int 0), (0, .ref m0), (1, .int k1), (2, .int k2)]) hx hb dX16_ground_40 rfl hl (by decide) rfl (fun ls hl => ?_)
      refine lv_aload_n hx hb dX16_ground_41 rfl (lv_at hl 1 rfl) ?_
      refine va_get (D := D) (ci := 20) (v := .ref m3) (C := RX16) (T := TX16) (N := 26) hx hb hts iv_k_X16_ground_X16 hown hK hP 1 rfl rfl 4 (by decide) (hts (.fieldLink RX16 20 "AnswerFoldModel" "grounded" "Ljava/util/ArrayList;") (by decide +kernel)) (fun _ h9 => h9) rfl dX16_ground_42 ?_
      refine wq_r (wc := [(m3, .inr (4, [.int 0, .ref td, .int 0]))]) (wr := [(m0, .inr (20, [.int 0, .int 0, .ref m1, .ref m2, .ref m3, .int 0, .ref m4, .ref m5, .ref m6, .int 0, .ref m7, .ref m8, .ref m9, .int 0, .ref m10, .int 0, .ref m11, .ref m12, .ref m13, .int 0, .ref m14, .int 0, .int 0, .int 0, .ref m15, .ref m16]))]) (va_runV (As := []) (rest := []) ⟨hx, hb, hml, hown, hts⟩ (k_iterator l D ty td mi H.size m3 0) (cwV 0 hts gv_k_X16_ground_7 rfl rfl rfl (by decide +kernel) ⟨(Nat.le_of_ble_eq_true rfl), (Nat.le_of_ble_eq_true rfl)⟩) (wq_preV hP hD hK hE hS hA [0] rfl (by decide) 0 4 rfl rfl) rfl rfl hl.1 rfl (lv_room (Nat.le_of_ble_eq_true rfl)) dX16_ground_45 ⟨(Nat.le_of_ble_eq_true rfl), (Nat.le_of_ble_eq_true rfl)⟩) hS hA hP hD [0] [1] rfl rfl (by decide) (by decide) (fun r u H locs hw hP hD hS => ?_)
      obtain ⟨q132, rfl, rfl⟩ := hw
      have hP : va_P D vwCl [(m0, .inr (20, [.int 0, .int 0, .ref m1, .ref m2, .ref m3, .int 0, .ref m4, .ref m5, .ref m6, .int 0, .ref m7, .ref m8, .ref m9, .int 0, .ref m10, .int 0, .ref m11, .ref m12, .ref m13, .int 0, .ref m14, .int 0, .int 0, .int 0, .ref m15, .ref m16])), (q132, .inr (3, [.int 0, .int (-1), .int 0, .ref m3])), (m3, .inr (4, [.int 0, .ref td, .int 0]))] H := hP
      have hD : va_D A [(m0, .inr (20, [.int 0, .int 0, .ref m1, .ref m2, .ref m3, .int 0, .ref m4, .ref m5, .ref m6, .int 0, .ref m7, .ref m8, .ref m9, .int 0, .ref m10, .int 0, .ref m11, .ref m12, .ref m13, .int 0, .ref m14, .int 0, .int 0, .int 0, .ref m15, .ref m16])), (q132, .inr (3, [.int 0, .int (-1), .int 0, .ref m3])), (m3, .inr (4, [.int 0, .ref td, .int 0]))] := hD
      refine W.widen (k := 1) (n := 4) (Nat.le_of_ble_eq_true rfl) (Nat.le_of_ble_eq_true rfl) ?_
      refine lv_astore (lv' := [(4, .ref q132), (3, .int 0), (0, .ref m0), (1, .int k1), (2, .int k2)]) hx hb dX16_ground_48 hl (by decide) rfl (fun ls hl => ?_)
      refine lv_aload hx hb dX16_ground_50 (lv_at hl 0 rfl) ?_
      refine wq_Fi (wc := [(q132, .inr (3, [.int 0, .int (-1), .int 0, .ref m3])), (m3, .inr (4, [.int 0, .ref td, .int 0]))]) (wr := [(m0, .inr (20, [.int 0, .int 0, .ref m1, .ref m2, .ref m3, .int 0, .ref m4, .ref m5, .ref m6, .int 0, .ref m7, .ref m8, .ref m9, .int 0, .ref m10, .int 0, .ref m11, .ref m12, .ref m13, .int 0, .ref m14, .int 0, .int 0, .int 0, .ref m15, .ref m16]))]) (va_runF (As := []) (rest := []) (hK.1 3 _ rfl).2 ⟨hx, hb, hml, hown, hts⟩ (k_hasNext l D ty td mi H.size q132 m3 0 (-1) 0) (va_cwF 0 hts gv_k_X16_ground_8 rfl rfl rfl (hE.fw (C := RJx35411) _ _ (by decide +kernel)) (by decide +kernel) ⟨(Nat.le_of_ble_eq_true rfl), (Nat.le_of_ble_eq_true rfl)⟩) (wq_preV hP hD hK hE hS hA [1, 2] rfl (by decide) 1 3 rfl rfl) rfl rfl hl.1 rfl (lv_room (Nat.le_of_ble_eq_true rfl)) dX16_ground_52 ⟨(Nat.le_of_ble_eq_true rfl), (Nat.le_of_ble_eq_true rfl)⟩) hS hA hP hD [1, 2] [0] rfl rfl (by decide) (by decide) (fun r u H locs hw hP hD hS => ?_)
      obtain ⟨rfl, rfl⟩ := hw
      have hP : va_P D vwCl [(m0, .inr (20, [.int 0, .int 0, .ref m1, .ref m2, .ref m3, .int 0, .ref m4, .ref m5, .ref m6, .int 0, .ref m7, .ref m8, .ref m9, .int 0, .ref m10, .int 0, .ref m11, .ref m12, .ref m13, .int 0, .ref m14, .int 0, .int 0, .int 0, .ref m15, .ref m16])), (q132, .inr (3, [.int 0, .int (-1), .int 0, .ref m3])), (m3, .inr (4, [.int 0, .ref td, .int 0]))] H := hP
      have hD : va_D A [(m0, .inr (20, [.int 0, .int 0, .ref m1, .ref m2, .ref m3, .int 0, .ref m4, .ref m5, .ref m6, .int 0, .ref m7, .ref m8, .ref m9, .int 0, .ref m10, .int 0, .ref m11, .ref m12, .ref m13, .int 0, .ref m14, .int 0, .int 0, .int 0, .ref m15, .ref m16])), (q132, .inr (3, [.int 0, .int (-1), .int 0, .ref m3])), (m3, .inr (4, [.int 0, .ref td, .int 0]))] := hD
      refine W.widen (k := 1) (n := 4) (Nat.le_of_ble_eq_true rfl) (Nat.le_of_ble_eq_true rfl) ?_
      refine lv_if_eq (tgt := 101) hx hb dX16_ground_57 (by decide) (fun _ => ?_) (fun c0 => absurd (by decide) c0)
      refine lv_aload_n hx hb dX16_ground_101 rfl (lv_at hl 2 rfl) ?_
      refine lv_iload_n hx hb dX16_ground_102 rfl (lv_at hl 1 rfl) ?_
      refine lv_if_ne (tgt := 118) hx hb dX16_ground_103 (by decide) (fun c0 => absurd (by decide) c0) (fun _ => ?_)
      refine lv_aload_n hx hb dX16_ground_106 rfl (lv_at hl 2 rfl) ?_
      refine va_get (D := D) (ci := 20) (v := .ref m3) (C := RX16) (T := TX16) (N := 26) hx hb hts iv_k_X16_ground_X16 hown hK hP 0 rfl rfl 4 (by decide) (hts (.fieldLink RX16 20 "AnswerFoldModel" "grounded" "Ljava/util/ArrayList;") (by decide +kernel)) (fun _ h9 => h9) rfl dX16_ground_107 ?_
      refine wq_i (wc := [(m3, .inr (4, [.int 0, .ref td, .int 0]))]) (wr := [(m0, .inr (20, [.int 0, .int 0, .ref m1, .ref m2, .ref m3, .int 0, .ref m4, .ref m5, .ref m6, .int 0, .ref m7, .ref m8, .ref m9, .int 0, .ref m10, .int 0, .ref m11, .ref m12, .ref m13, .int 0, .ref m14, .int 0, .int 0, .int 0, .ref m15, .ref m16])), (q132, .inr (3, [.int 0, .int (-1), .int 0, .ref m3]))]) (va_runV (As := []) (rest := [.ref m0]) ⟨hx, hb, hml, hown, hts⟩ (k_size l D ty td mi H.size m3 td 0 0) (cwV 0 hts gv_k_X16_ground_9 rfl rfl rfl (by decide +kernel) ⟨(Nat.le_of_ble_eq_true rfl), (Nat.le_of_ble_eq_true rfl)⟩) (wq_preV hP hD hK hE hS hA [2] rfl (by decide) 2 4 rfl rfl) rfl rfl hl.1 rfl (lv_room (Nat.le_of_ble_eq_true rfl)) dX16_ground_110 ⟨(Nat.le_of_ble_eq_true rfl), (Nat.le_of_ble_eq_true rfl)⟩) hS hA hP hD [2] [0, 1] rfl rfl (by decide) (by decide) (fun r u H locs hw hP hD hS => ?_)
      obtain ⟨rfl, rfl⟩ := hw
      have hP : va_P D vwCl [(m0, .inr (20, [.int 0, .int 0, .ref m1, .ref m2, .ref m3, .int 0, .ref m4, .ref m5, .ref m6, .int 0, .ref m7, .ref m8, .ref m9, .int 0, .ref m10, .int 0, .ref m11, .ref m12, .ref m13, .int 0, .ref m14, .int 0, .int 0, .int 0, .ref m15, .ref m16])), (q132, .inr (3, [.int 0, .int (-1), .int 0, .ref m3])), (m3, .inr (4, [.int 0, .ref td, .int 0]))] H := hP
      have hD : va_D A [(m0, .inr (20, [.int 0, .int 0, .ref m1, .ref m2, .ref m3, .int 0, .ref m4, .ref m5, .ref m6, .int 0, .ref m7, .ref m8, .ref m9, .int 0, .ref m10, .int 0, .ref m11, .ref m12, .ref m13, .int 0, .ref m14, .int 0, .int 0, .int 0, .ref m15, .ref m16])), (q132, .inr (3, [.int 0, .int (-1), .int 0, .ref m3])), (m3, .inr (4, [.int 0, .ref td, .int 0]))] := hD
      refine W.widen (k := 1) (n := 4) (Nat.le_of_ble_eq_true rfl) (Nat.le_of_ble_eq_true rfl) ?_
      refine lv_bipush (v := 6) hx hb dX16_ground_113 (by decide) ?_
      refine lv_icmp_ne (tgt := 122) hx hb dX16_ground_115 (by decide) (fun _ => ?_) (fun c0 => absurd c0 (by decide))
      refine lv_iconst (v := 0) hx hb dX16_ground_122 (by decide) ?_
      refine lv_iconst (v := 2) hx hb dX16_ground_123 (by decide) ?_
      refine wq_i (wc := [(m0, .inr (20, [.int 0, .int 0, .ref m1, .ref m2, .ref m3, .int 0, .ref m4, .ref m5, .ref m6, .int 0, .ref m7, .ref m8, .ref m9, .int 0, .ref m10, .int 0, .ref m11, .ref m12, .ref m13, .int 0, .ref m14, .int 0, .int 0, .int 0, .ref m15, .ref m16]))]) (wr := [(q132, .inr (3, [.int 0, .int (-1), .int 0, .ref m3])), (m3, .inr (4, [.int 0, .ref td, .int 0]))]) (va_runV (As := [.int 0, .int 2]) (rest := []) ⟨hx, hb, hml, hown, hts⟩ (k_X16_fails_0_2 l D ty td mi H.size m0 m1 m2 m3 m4 m5 m6 m7 m8 m9 m10 m11 m12 m13 m14 m15 m16 0) (cwV 2 hts gv_k_X16_ground_10 rfl rfl rfl (by decide +kernel) ⟨(Nat.le_of_ble_eq_true rfl), (Nat.le_of_ble_eq_true rfl)⟩) (wq_preV hP hD hK hE hS hA [0] rfl (by decide) 0 20 rfl rfl) rfl rfl hl.1 rfl (lv_room (Nat.le_of_ble_eq_true rfl)) dX16_ground_124 ⟨(Nat.le_of_ble_eq_true rfl), (Nat.le_of_ble_eq_true rfl)⟩) hS hA hP hD [0] [1, 2] rfl rfl (by decide) (by decide) (fun r u H locs hw hP hD hS => ?_)
      obtain ⟨rfl, rfl⟩ := hw
      have hP : va_P D vwCl [(q132, .inr (3, [.int 0, .int (-1), .int 0, .ref m3])), (m3, .inr (4, [.int 0, .ref td, .int 0])), (m0, .inr (20, [.int 0, .int 0, .ref m1, .ref m2, .ref m3, .int 0, .ref m4, .ref m5, .ref m6, .int 0, .ref m7, .ref m8, .ref m9, .int 0, .ref m10, .int 0, .ref m11, .ref m12, .ref m13, .int 0, .ref m14, .int 0, .int 0, .int 0, .ref m15, .ref m16]))] H := hP
      have hD : va_D A [(q132, .inr (3, [.int 0, .int (-1), .int 0, .ref m3])), (m3, .inr (4, [.int 0, .ref td, .int 0])), (m0, .inr (20, [.int 0, .int 0, .ref m1, .ref m2, .ref m3, .int 0, .ref m4, .ref m5, .ref m6, .int 0, .ref m7, .ref m8, .ref m9, .int 0, .ref m10, .int 0, .ref m11, .ref m12, .ref m13, .int 0, .ref m14, .int 0, .int 0, .int 0, .ref m15, .ref m16]))] := hD
      refine W.widen (k := 1) (n := 4) (Nat.le_of_ble_eq_true rfl) (Nat.le_of_ble_eq_true rfl) ?_
      refine lv_if_eq (tgt := 132) hx hb dX16_ground_127 (by decide) (fun _ => ?_) (fun c0 => absurd (by decide) c0)
      refine lv_iconst (v := 2) hx hb dX16_ground_132 (by decide) ?_
      refine wq_newa (atype := .int) (tyA := .int) hx hb (hts (.arrayClass .int) (by decide +kernel)) rfl hK hP hD hS hA 0 rfl (n := 2) (N' := 2) (a0 := (2, .inl (fun _ => 0))) (fun _ => rfl) (by decide) (by decide) (Nat.le_of_ble_eq_true rfl) (Nat.le_of_ble_eq_true rfl) (Nat.le_of_ble_eq_true rfl) dX16_ground_133 (fun q133 H hP hD hS => ?_)
      have hP : va_P D vwCl [(q132, .inr (3, [.int 0, .int (-1), .int 0, .ref m3])), (m3, .inr (4, [.int 0, .ref td, .int 0])), (m0, .inr (20, [.int 0, .int 0, .ref m1, .ref m2, .ref m3, .int 0, .ref m4, .ref m5, .ref m6, .int 0, .ref m7, .ref m8, .ref m9, .int 0, .ref m10, .int 0, .ref m11, .ref m12, .ref m13, .int 0, .ref m14, .int 0, .int 0, .int 0, .ref m15, .ref m16])), (q133, .inl (ty 0, 2, .inl (fun _ => 0)))] H := hP
      have hD : va_D A [(q132, .inr (3, [.int 0, .int (-1), .int 0, .ref m3])), (m3, .inr (4, [.int 0, .ref td, .int 0])), (m0, .inr (20, [.int 0, .int 0, .ref m1, .ref m2, .ref m3, .int 0, .ref m4, .ref m5, .ref m6, .int 0, .ref m7, .ref m8, .ref m9, .int 0, .ref m10, .int 0, .ref m11, .ref m12, .ref m13, .int 0, .ref m14, .int 0, .int 0, .int 0, .ref m15, .ref m16])), (q133, .inl (ty 0, 2, .inl (fun _ => 0)))] := hD
      refine W.widen (k := 2) (n := 6) (Nat.le_of_ble_eq_true rfl) (Nat.le_of_ble_eq_true rfl) ?_
      refine lv_dup hx hb dX16_ground_135 rfl ?_
      refine lv_iconst (v := 0) hx hb dX16_ground_136 (by decide) ?_
      refine lv_iload_n hx hb dX16_ground_137 rfl (lv_at hl 3 rfl) ?_
      refine va_iast (D := D) hx hb hK hP hD hS 3 0 rfl rfl (vp_in_iff.mpr (by decide)) dX16_ground_138 (fun H locs hP hD hS => ?_)
      have hP : va_P D vwCl [(q132, .inr (3, [.int 0, .int (-1), .int 0, .ref m3])), (m3, .inr (4, [.int 0, .ref td, .int 0])), (m0, .inr (20, [.int 0, .int 0, .ref m1, .ref m2, .ref m3, .int 0, .ref m4, .ref m5, .ref m6, .int 0, .ref m7, .ref m8, .ref m9, .int 0, .ref m10, .int 0, .ref m11, .ref m12, .ref m13, .int 0, .ref m14, .int 0, .int 0, .int 0, .ref m15, .ref m16])), (q133, .inl (ty 0, 2, .inl (upd (fun _ => 0) (0 : Int32).toNatClampNeg k1)))] H := hP
      have hD : va_D A [(q132, .inr (3, [.int 0, .int (-1), .int 0, .ref m3])), (m3, .inr (4, [.int 0, .ref td, .int 0])), (m0, .inr (20, [.int 0, .int 0, .ref m1, .ref m2, .ref m3, .int 0, .ref m4, .ref m5, .ref m6, .int 0, .ref m7, .ref m8, .ref m9, .int 0, .ref m10, .int 0, .ref m11, .ref m12, .ref m13, .int 0, .ref m14, .int 0, .int 0, .int 0, .ref m15, .ref m16])), (q133, .inl (ty 0, 2, .inl (upd (fun _ => 0) (0 : Int32).toNatClampNeg k1)))] := hD
      refine lv_dup hx hb dX16_ground_139 rfl ?_
      refine lv_iconst (v := 1) hx hb dX16_ground_140 (by decide) ?_
      refine lv_iload_n hx hb dX16_ground_141 rfl (lv_at hl 4 rfl) ?_
      refine va_iast (D := D) hx hb hK hP hD hS 3 0 rfl rfl (vp_in_iff.mpr (by decide)) dX16_ground_142 (fun H locs hP hD hS => ?_)
      have hP : va_P D vwCl [(q132, .inr (3, [.int 0, .int (-1), .int 0, .ref m3])), (m3, .inr (4, [.int 0, .ref td, .int 0])), (m0, .inr (20, [.int 0, .int 0, .ref m1, .ref m2, .ref m3, .int 0, .ref m4, .ref m5, .ref m6, .int 0, .ref m7, .ref m8, .ref m9, .int 0, .ref m10, .int 0, .ref m11, .ref m12, .ref m13, .int 0, .ref m14, .int 0, .int 0, .int 0, .ref m15, .ref m16])), (q133, .inl (ty 0, 2, .inl (upd (upd (fun _ => 0) (0 : Int32).toNatClampNeg k1) (1 : Int32).toNatClampNeg k2)))] H := hP
      have hD : va_D A [(q132, .inr (3, [.int 0, .int (-1), .int 0, .ref m3])), (m3, .inr (4, [.int 0, .ref td, .int 0])), (m0, .inr (20, [.int 0, .int 0, .ref m1, .ref m2, .ref m3, .int 0, .ref m4, .ref m5, .ref m6, .int 0, .ref m7, .ref m8, .ref m9, .int 0, .ref m10, .int 0, .ref m11, .ref m12, .ref m13, .int 0, .ref m14, .int 0, .int 0, .int 0, .ref m15, .ref m16])), (q133, .inl (ty 0, 2, .inl (upd (upd (fun _ => 0) (0 : Int32).toNatClampNeg k1) (1 : Int32).toNatClampNeg k2)))] := hD
      refine lv_astore (lv' := [(4, .ref q133), (3, .int 0), (0, .ref m0), (1, .int k1), (2, .int k2)]) hx hb dX16_ground_143 hl (by decide) rfl (fun ls hl => ?_)
      refine lv_aload_n hx hb dX16_ground_145 rfl (lv_at hl 2 rfl) ?_
      refine va_get (D := D) (ci := 20) (v := .ref m3) (C := RX16) (T := TX16) (N := 26) hx hb hts iv_k_X16_ground_X16 hown hK hP 2 rfl rfl 4 (by decide) (hts (.fieldLink RX16 20 "AnswerFoldModel" "grounded" "Ljava/util/ArrayList;") (by decide +kernel)) (fun _ h9 => h9) rfl dX16_ground_146 ?_
      refine lv_aload hx hb dX16_ground_149 (lv_at hl 0 rfl) ?_
      refine wq_i (wc := [(m3, .inr (4, [.int 0, .ref td, .int 0])), (q133, .inl (ty 0, 2, .inl (upd (upd (fun _ => 0) (0 : Int32).toNatClampNeg k1) (1 : Int32).toNatClampNeg k2)))]) (wr := [(q132, .inr (3, [.int 0, .int (-1), .int 0, .ref m3])), (m0, .inr (20, [.int 0, .int 0, .ref m1, .ref m2, .ref m3, .int 0, .ref m4, .ref m5, .ref m6, .int 0, .ref m7, .ref m8, .ref m9, .int 0, .ref m10, .int 0, .ref m11, .ref m12, .ref m13, .int 0, .ref m14, .int 0, .int 0, .int 0, .ref m15, .ref m16]))]) (va_runV (As := [.ref q133]) (rest := []) ⟨hx, hb, hml, hown, hts⟩ (k_add1_ints l D ty td mi H.size m3 0 q133 (upd (upd (fun _ => 0) (0 : Int32).toNatClampNeg k1) (1 : Int32).toNatClampNeg k2)) (cwV 1 hts gv_k_X16_ground_11 rfl rfl rfl (by decide +kernel) ⟨(Nat.le_of_ble_eq_true rfl), (Nat.le_of_ble_eq_true rfl)⟩) (wq_preV hP hD hK hE hS hA [1, 3] rfl (by decide) 1 4 rfl rfl) rfl rfl hl.1 rfl (lv_room (Nat.le_of_ble_eq_true rfl)) dX16_ground_151 ⟨(Nat.le_of_ble_eq_true rfl), (Nat.le_of_ble_eq_true rfl)⟩) hS hA hP hD [1, 3] [0, 2] rfl rfl (by decide) (by decide) (fun r u H locs hw hP hD hS => ?_)
      obtain ⟨q134, rfl, rfl⟩ := hw
      have hP : va_P D vwCl [(q132, .inr (3, [.int 0, .int (-1), .int 0, .ref m3])), (m0, .inr (20, [.int 0, .int 0, .ref m1, .ref m2, .ref m3, .int 0, .ref m4, .ref m5, .ref m6, .int 0, .ref m7, .ref m8, .ref m9, .int 0, .ref m10, .int 0, .ref m11, .ref m12, .ref m13, .int 0, .ref m14, .int 0, .int 0, .int 0, .ref m15, .ref m16])), (q133, .inl (ty 0, 2, .inl (upd (upd (fun _ => 0) (0 : Int32).toNatClampNeg k1) (1 : Int32).toNatClampNeg k2))), (m3, .inr (4, [.int (0 + 1), .ref q134, .int 1])), (q134, .inl (ty 6, 10, .inr (.inr (.inr (.inr (va_up (fun _ => none) (0 : Int32).toNatClampNeg (some q133)))))))] H := hP
      have hD : va_D A [(q132, .inr (3, [.int 0, .int (-1), .int 0, .ref m3])), (m0, .inr (20, [.int 0, .int 0, .ref m1, .ref m2, .ref m3, .int 0, .ref m4, .ref m5, .ref m6, .int 0, .ref m7, .ref m8, .ref m9, .int 0, .ref m10, .int 0, .ref m11, .ref m12, .ref m13, .int 0, .ref m14, .int 0, .int 0, .int 0, .ref m15, .ref m16])), (q133, .inl (ty 0, 2, .inl (upd (upd (fun _ => 0) (0 : Int32).toNatClampNeg k1) (1 : Int32).toNatClampNeg k2))), (m3, .inr (4, [.int (0 + 1), .ref q134, .int 1])), (q134, .inl (ty 6, 10, .inr (.inr (.inr (.inr (va_up (fun _ => none) (0 : Int32).toNatClampNeg (some q133)))))))] := hD
      refine W.widen (k := 3) (n := 16) (Nat.le_of_ble_eq_true rfl) (Nat.le_of_ble_eq_true rfl) ?_
      refine lv_pop hx hb dX16_ground_154 rfl ?_
      refine lv_aload_n hx hb dX16_ground_155 rfl (lv_at hl 2 rfl) ?_
      refine wq_v (wc := [(m0, .inr (20, [.int 0, .int 0, .ref m1, .ref m2, .ref m3, .int 0, .ref m4, .ref m5, .ref m6, .int 0, .ref m7, .ref m8, .ref m9, .int 0, .ref m10, .int 0, .ref m11, .ref m12, .ref m13, .int 0, .ref m14, .int 0, .int 0, .int 0, .ref m15, .ref m16]))]) (wr := [(q132, .inr (3, [.int 0, .int (-1), .int 0, .ref m3])), (q133, .inl (ty 0, 2, .inl (upd (upd (fun _ => 0) (0 : Int32).toNatClampNeg k1) (1 : Int32).toNatClampNeg k2))), (m3, .inr (4, [.int (0 + 1), .ref q134, .int 1])), (q134, .inl (ty 6, 10, .inr (.inr (.inr (.inr (va_up (fun _ => none) (0 : Int32).toNatClampNeg (some q133)))))))]) (va_runV (As := []) (rest := []) ⟨hx, hb, hml, hown, hts⟩ (k_X16_change l D ty td mi H.size m0 m1 m2 m3 m4 m5 m6 m7 m8 m9 m10 m11 m12 m13 m14 m15 m16 0 0) (cwV 0 hts gv_k_X16_ground_12 rfl rfl rfl (by decide +kernel) ⟨(Nat.le_of_ble_eq_true rfl), (Nat.le_of_ble_eq_true rfl)⟩) (wq_preV hP hD hK hE hS hA [1] rfl (by decide) 1 20 rfl rfl) rfl rfl hl.1 rfl (lv_room (Nat.le_of_ble_eq_true rfl)) dX16_ground_156 ⟨(Nat.le_of_ble_eq_true rfl), (Nat.le_of_ble_eq_true rfl)⟩) hS hA hP hD [1] [0, 2, 3, 4] rfl rfl (by decide) (by decide) (fun u H locs hw hP hD hS => ?_)
      obtain rfl := hw
      have hP : va_P D vwCl [(q132, .inr (3, [.int 0, .int (-1), .int 0, .ref m3])), (q133, .inl (ty 0, 2, .inl (upd (upd (fun _ => 0) (0 : Int32).toNatClampNeg k1) (1 : Int32).toNatClampNeg k2))), (m3, .inr (4, [.int (0 + 1), .ref q134, .int 1])), (q134, .inl (ty 6, 10, .inr (.inr (.inr (.inr (va_up (fun _ => none) (0 : Int32).toNatClampNeg (some q133))))))), (m0, .inr (20, [.int 0, .int 0, .ref m1, .ref m2, .ref m3, .int 0, .ref m4, .ref m5, .ref m6, .int 0, .ref m7, .ref m8, .ref m9, .int 0, .ref m10, .int 0, .ref m11, .ref m12, .ref m13, .int 0, .ref m14, .int 0, .int 0, .int 0, .ref m15, .ref m16]))] H := hP
      have hD : va_D A [(q132, .inr (3, [.int 0, .int (-1), .int 0, .ref m3])), (q133, .inl (ty 0, 2, .inl (upd (upd (fun _ => 0) (0 : Int32).toNatClampNeg k1) (1 : Int32).toNatClampNeg k2))), (m3, .inr (4, [.int (0 + 1), .ref q134, .int 1])), (q134, .inl (ty 6, 10, .inr (.inr (.inr (.inr (va_up (fun _ => none) (0 : Int32).toNatClampNeg (some q133))))))), (m0, .inr (20, [.int 0, .int 0, .ref m1, .ref m2, .ref m3, .int 0, .ref m4, .ref m5, .ref m6, .int 0, .ref m7, .ref m8, .ref m9, .int 0, .ref m10, .int 0, .ref m11, .ref m12, .ref m13, .int 0, .ref m14, .int 0, .int 0, .int 0, .ref m15, .ref m16]))] := hD
      refine W.widen (k := 3) (n := 16) (Nat.le_of_ble_eq_true rfl) (Nat.le_of_ble_eq_true rfl) ?_
      refine lv_aload_n hx hb dX16_ground_159 rfl (lv_at hl 2 rfl) ?_
      refine va_get (D := D) (ci := 20) (v := .ref m3) (C := RX16) (T := TX16) (N := 26) hx hb hts iv_k_X16_ground_X16 hown hK hP 4 rfl rfl 4 (by decide) (hts (.fieldLink RX16 20 "AnswerFoldModel" "grounded" "Ljava/util/ArrayList;") (by decide +kernel)) (fun _ h9 => h9) rfl dX16_ground_160 ?_
      refine wq_i (wc := [(m3, .inr (4, [.int (0 + 1), .ref q134, .int 1]))]) (wr := [(q132, .inr (3, [.int 0, .int (-1), .int 0, .ref m3])), (q133, .inl (ty 0, 2, .inl (upd (upd (fun _ => 0) (0 : Int32).toNatClampNeg k1) (1 : Int32).toNatClampNeg k2))), (q134, .inl (ty 6, 10, .inr (.inr (.inr (.inr (va_up (fun _ => none) (0 : Int32).toNatClampNeg (some q133))))))), (m0, .inr (20, [.int 0, .int 0, .ref m1, .ref m2, .ref m3, .int 0, .ref m4, .ref m5, .ref m6, .int 0, .ref m7, .ref m8, .ref m9, .int 0, .ref m10, .int 0, .ref m11, .ref m12, .ref m13, .int 0, .ref m14, .int 0, .int 0, .int 0, .ref m15, .ref m16]))]) (va_runV (As := []) (rest := []) ⟨hx, hb, hml, hown, hts⟩ (k_size l D ty td mi H.size m3 q134 (0 + 1) 1) (cwV 0 hts gv_k_X16_ground_13 rfl rfl rfl (by decide +kernel) ⟨(Nat.le_of_ble_eq_true rfl), (Nat.le_of_ble_eq_true rfl)⟩) (wq_preV hP hD hK hE hS hA [2] rfl (by decide) 2 4 rfl rfl) rfl rfl hl.1 rfl (lv_room (Nat.le_of_ble_eq_true rfl)) dX16_ground_163 ⟨(Nat.le_of_ble_eq_true rfl), (Nat.le_of_ble_eq_true rfl)⟩) hS hA hP hD [2] [0, 1, 3, 4] rfl rfl (by decide) (by decide) (fun r u H locs hw hP hD hS => ?_)
      obtain ⟨rfl, rfl⟩ := hw
      have hP : va_P D vwCl [(q132, .inr (3, [.int 0, .int (-1), .int 0, .ref m3])), (q133, .inl (ty 0, 2, .inl (upd (upd (fun _ => 0) (0 : Int32).toNatClampNeg k1) (1 : Int32).toNatClampNeg k2))), (q134, .inl (ty 6, 10, .inr (.inr (.inr (.inr (va_up (fun _ => none) (0 : Int32).toNatClampNeg (some q133))))))), (m0, .inr (20, [.int 0, .int 0, .ref m1, .ref m2, .ref m3, .int 0, .ref m4, .ref m5, .ref m6, .int 0, .ref m7, .ref m8, .ref m9, .int 0, .ref m10, .int 0, .ref m11, .ref m12, .ref m13, .int 0, .ref m14, .int 0, .int 0, .int 0, .ref m15, .ref m16])), (m3, .inr (4, [.int (0 + 1), .ref q134, .int 1]))] H := hP
      have hD : va_D A [(q132, .inr (3, [.int 0, .int (-1), .int 0, .ref m3])), (q133, .inl (ty 0, 2, .inl (upd (upd (fun _ => 0) (0 : Int32).toNatClampNeg k1) (1 : Int32).toNatClampNeg k2))), (q134, .inl (ty 6, 10, .inr (.inr (.inr (.inr (va_up (fun _ => none) (0 : Int32).toNatClampNeg (some q133))))))), (m0, .inr (20, [.int 0, .int 0, .ref m1, .ref m2, .ref m3, .int 0, .ref m4, .ref m5, .ref m6, .int 0, .ref m7, .ref m8, .ref m9, .int 0, .ref m10, .int 0, .ref m11, .ref m12, .ref m13, .int 0, .ref m14, .int 0, .int 0, .int 0, .ref m15, .ref m16])), (m3, .inr (4, [.int (0 + 1), .ref q134, .int 1]))] := hD
      refine W.widen (k := 3) (n := 16) (Nat.le_of_ble_eq_true rfl) (Nat.le_of_ble_eq_true rfl) ?_
      have hP9 := hP.sub (ws' := [(m0, .inr (20, [.int 0, .int 0, .ref m1, .ref m2, .ref m3, .int 0, .ref m4, .ref m5, .ref m6, .int 0, .ref m7, .ref m8, .ref m9, .int 0, .ref m10, .int 0, .ref m11, .ref m12, .ref m13, .int 0, .ref m14, .int 0, .int 0, .int 0, .ref m15, .ref m16]))]) [3] rfl
      have hD9 := hD.sub (ws' := [(m0, .inr (20, [.int 0, .int 0, .ref m1, .ref m2, .ref m3, .int 0, .ref m4, .ref m5, .ref m6, .int 0, .ref m7, .ref m8, .ref m9, .int 0, .ref m10, .int 0, .ref m11, .ref m12, .ref m13, .int 0, .ref m14, .int 0, .int 0, .int 0, .ref m15, .ref m16]))]) [3] (by decide) rfl
      refine W.widen (k := 3) (n := 16) (Nat.le_of_ble_eq_true rfl) (Nat.le_of_ble_eq_true rfl) ?_
      exact W.iret (v := 1) hx hb hr (fun t ht hW => ⟨⟨1, [(m0, .inr (20, [.int 0, .int 0, .ref m1, .ref m2, .ref m3, .int 0, .ref m4, .ref m5, .ref m6, .int 0, .ref m7, .ref m8, .ref m9, .int 0, .ref m10, .int 0, .ref m11, .ref m12, .ref m13, .int 0, .ref m14, .int 0, .int 0, .int 0, .ref m15, .ref m16]))], rfl, (Or.inr (Or.inr (Or.inr (Or.inr ⟨rfl, c_4, c_5, c_9, c_10, rfl⟩)))), wq_B.of ht hP9 hD9⟩, hS.F ht⟩) hS.2.2 dX16_ground_166
